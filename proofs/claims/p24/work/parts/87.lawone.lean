theorem hd_L_refuses : yL_refuses.cls ≠ "java/lang/invoke/MethodHandle" ∧ yL_refuses.cls ≠ "java/lang/invoke/VarHandle" ∧ (parseMethodDescriptor yL_refuses.desc).map (fun d => d.parameters.length) = some 2 := ⟨by decide +kernel, by decide +kernel, by decide +kernel⟩
theorem gk_L_refuses {own : String} {idx : Nat} (h : Cond.methodLink own idx yL_refuses ∈ wsA) : GoodIn wsA (va_wsS own idx yL_refuses (.code yL_refuses cL_refuses 6 (some .boolean) :: wsA)) := gd_S h wt_1_126 wt_1_0 wt_1_127
/-! BitNotationLaw.refuses(LBitNotation;I)Z -/
theorem dL_refuses_0 : decode cL_refuses 0 = .ok (.iload_n 1, 1) := by decide +kernel
theorem dL_refuses_1 : decode cL_refuses 1 = .ok (.iconst 2, 1) := by decide +kernel
theorem dL_refuses_2 : decode cL_refuses 2 = .ok (.irem, 1) := by decide +kernel
theorem dL_refuses_3 : decode cL_refuses 3 = .ok (.ifCond .ne 12, 3) := by decide +kernel
theorem dL_refuses_6 : decode cL_refuses 6 = .ok (.iconst (-1), 1) := by decide +kernel
theorem dL_refuses_7 : decode cL_refuses 7 = .ok (.iload_n 1, 1) := by decide +kernel
theorem dL_refuses_8 : decode cL_refuses 8 = .ok (.bipush 50, 2) := by decide +kernel
theorem dL_refuses_10 : decode cL_refuses 10 = .ok (.irem, 1) := by decide +kernel
theorem dL_refuses_11 : decode cL_refuses 11 = .ok (.isub, 1) := by decide +kernel
theorem dL_refuses_12 : decode cL_refuses 12 = .ok (.goto 12, 3) := by decide +kernel
theorem dL_refuses_15 : decode cL_refuses 15 = .ok (.aload_n 0, 1) := by decide +kernel
theorem dL_refuses_16 : decode cL_refuses 16 = .ok (.invokevirtual 76, 3) := by decide +kernel
theorem dL_refuses_19 : decode cL_refuses 19 = .ok (.iload_n 1, 1) := by decide +kernel
theorem dL_refuses_20 : decode cL_refuses 20 = .ok (.bipush 50, 2) := by decide +kernel
theorem dL_refuses_22 : decode cL_refuses 22 = .ok (.irem, 1) := by decide +kernel
theorem dL_refuses_23 : decode cL_refuses 23 = .ok (.iadd, 1) := by decide +kernel
theorem dL_refuses_24 : decode cL_refuses 24 = .ok (.istore_n 2, 1) := by decide +kernel
theorem dL_refuses_25 : decode cL_refuses 25 = .ok (.iload_n 1, 1) := by decide +kernel
theorem dL_refuses_26 : decode cL_refuses 26 = .ok (.iconst 2, 1) := by decide +kernel
theorem dL_refuses_27 : decode cL_refuses 27 = .ok (.irem, 1) := by decide +kernel
theorem dL_refuses_28 : decode cL_refuses 28 = .ok (.ifCond .ne 12, 3) := by decide +kernel
theorem dL_refuses_31 : decode cL_refuses 31 = .ok (.iconst (-1), 1) := by decide +kernel
theorem dL_refuses_32 : decode cL_refuses 32 = .ok (.iload_n 1, 1) := by decide +kernel
theorem dL_refuses_33 : decode cL_refuses 33 = .ok (.bipush 50, 2) := by decide +kernel
theorem dL_refuses_35 : decode cL_refuses 35 = .ok (.irem, 1) := by decide +kernel
theorem dL_refuses_36 : decode cL_refuses 36 = .ok (.isub, 1) := by decide +kernel
theorem dL_refuses_37 : decode cL_refuses 37 = .ok (.goto 12, 3) := by decide +kernel
theorem dL_refuses_40 : decode cL_refuses 40 = .ok (.aload_n 0, 1) := by decide +kernel
theorem dL_refuses_41 : decode cL_refuses 41 = .ok (.invokevirtual 79, 3) := by decide +kernel
theorem dL_refuses_44 : decode cL_refuses 44 = .ok (.iload_n 1, 1) := by decide +kernel
theorem dL_refuses_45 : decode cL_refuses 45 = .ok (.bipush 50, 2) := by decide +kernel
theorem dL_refuses_47 : decode cL_refuses 47 = .ok (.irem, 1) := by decide +kernel
theorem dL_refuses_48 : decode cL_refuses 48 = .ok (.iadd, 1) := by decide +kernel
theorem dL_refuses_49 : decode cL_refuses 49 = .ok (.istore_n 3, 1) := by decide +kernel
theorem dL_refuses_50 : decode cL_refuses 50 = .ok (.aload_n 0, 1) := by decide +kernel
theorem dL_refuses_51 : decode cL_refuses 51 = .ok (.sipush (-1001), 3) := by decide +kernel
theorem dL_refuses_54 : decode cL_refuses 54 = .ok (.iload_n 1, 1) := by decide +kernel
theorem dL_refuses_55 : decode cL_refuses 55 = .ok (.isub, 1) := by decide +kernel
theorem dL_refuses_56 : decode cL_refuses 56 = .ok (.iconst 0, 1) := by decide +kernel
theorem dL_refuses_57 : decode cL_refuses 57 = .ok (.invokestatic 82, 3) := by decide +kernel
theorem dL_refuses_60 : decode cL_refuses 60 = .ok (.ldc 15, 2) := by decide +kernel
theorem dL_refuses_62 : decode cL_refuses 62 = .ok (.if_icmp .ne 295, 3) := by decide +kernel
theorem dL_refuses_65 : decode cL_refuses 65 = .ok (.aload_n 0, 1) := by decide +kernel
theorem dL_refuses_66 : decode cL_refuses 66 = .ok (.sipush 1001, 3) := by decide +kernel
theorem dL_refuses_69 : decode cL_refuses 69 = .ok (.iload_n 1, 1) := by decide +kernel
theorem dL_refuses_70 : decode cL_refuses 70 = .ok (.iadd, 1) := by decide +kernel
theorem dL_refuses_71 : decode cL_refuses 71 = .ok (.sipush 2000, 3) := by decide +kernel
theorem dL_refuses_74 : decode cL_refuses 74 = .ok (.iload_n 1, 1) := by decide +kernel
theorem dL_refuses_75 : decode cL_refuses 75 = .ok (.iadd, 1) := by decide +kernel
theorem dL_refuses_76 : decode cL_refuses 76 = .ok (.invokestatic 82, 3) := by decide +kernel
theorem dL_refuses_79 : decode cL_refuses 79 = .ok (.ldc 15, 2) := by decide +kernel
theorem dL_refuses_81 : decode cL_refuses 81 = .ok (.if_icmp .ne 276, 3) := by decide +kernel
theorem dL_refuses_84 : decode cL_refuses 84 = .ok (.aload_n 0, 1) := by decide +kernel
theorem dL_refuses_85 : decode cL_refuses 85 = .ok (.iconst 5, 1) := by decide +kernel
theorem dL_refuses_86 : decode cL_refuses 86 = .ok (.iconst 4, 1) := by decide +kernel
theorem dL_refuses_87 : decode cL_refuses 87 = .ok (.invokestatic 82, 3) := by decide +kernel
theorem dL_refuses_90 : decode cL_refuses 90 = .ok (.ldc 15, 2) := by decide +kernel
theorem dL_refuses_92 : decode cL_refuses 92 = .ok (.if_icmp .ne 265, 3) := by decide +kernel
theorem dL_refuses_95 : decode cL_refuses 95 = .ok (.aload_n 0, 1) := by decide +kernel
theorem dL_refuses_96 : decode cL_refuses 96 = .ok (.iconst 5, 1) := by decide +kernel
theorem dL_refuses_97 : decode cL_refuses 97 = .ok (.sipush 1001, 3) := by decide +kernel
theorem dL_refuses_100 : decode cL_refuses 100 = .ok (.iload_n 1, 1) := by decide +kernel
theorem dL_refuses_101 : decode cL_refuses 101 = .ok (.iadd, 1) := by decide +kernel
theorem dL_refuses_102 : decode cL_refuses 102 = .ok (.invokestatic 82, 3) := by decide +kernel
theorem dL_refuses_105 : decode cL_refuses 105 = .ok (.ldc 15, 2) := by decide +kernel
theorem dL_refuses_107 : decode cL_refuses 107 = .ok (.if_icmp .ne 250, 3) := by decide +kernel
theorem dL_refuses_110 : decode cL_refuses 110 = .ok (.aload_n 0, 1) := by decide +kernel
theorem dL_refuses_111 : decode cL_refuses 111 = .ok (.iload_n 2, 1) := by decide +kernel
theorem dL_refuses_112 : decode cL_refuses 112 = .ok (.bipush 9, 2) := by decide +kernel
theorem dL_refuses_114 : decode cL_refuses 114 = .ok (.bipush 9, 2) := by decide +kernel
theorem dL_refuses_116 : decode cL_refuses 116 = .ok (.invokestatic 88, 3) := by decide +kernel
theorem dL_refuses_119 : decode cL_refuses 119 = .ok (.ldc 25, 2) := by decide +kernel
theorem dL_refuses_121 : decode cL_refuses 121 = .ok (.if_icmp .ne 236, 3) := by decide +kernel
theorem dL_refuses_124 : decode cL_refuses 124 = .ok (.aload_n 0, 1) := by decide +kernel
theorem dL_refuses_125 : decode cL_refuses 125 = .ok (.iload_n 2, 1) := by decide +kernel
theorem dL_refuses_126 : decode cL_refuses 126 = .ok (.iconst 1, 1) := by decide +kernel
theorem dL_refuses_127 : decode cL_refuses 127 = .ok (.invokestatic 92, 3) := by decide +kernel
theorem dL_refuses_130 : decode cL_refuses 130 = .ok (.ldc 25, 2) := by decide +kernel
theorem dL_refuses_132 : decode cL_refuses 132 = .ok (.if_icmp .ne 225, 3) := by decide +kernel
theorem dL_refuses_135 : decode cL_refuses 135 = .ok (.aload_n 0, 1) := by decide +kernel
theorem dL_refuses_136 : decode cL_refuses 136 = .ok (.iload_n 2, 1) := by decide +kernel
theorem dL_refuses_137 : decode cL_refuses 137 = .ok (.iload_n 2, 1) := by decide +kernel
theorem dL_refuses_138 : decode cL_refuses 138 = .ok (.invokestatic 96, 3) := by decide +kernel
theorem dL_refuses_141 : decode cL_refuses 141 = .ok (.ldc 25, 2) := by decide +kernel
theorem dL_refuses_143 : decode cL_refuses 143 = .ok (.if_icmp .ne 214, 3) := by decide +kernel
theorem dL_refuses_146 : decode cL_refuses 146 = .ok (.aload_n 0, 1) := by decide +kernel
theorem dL_refuses_147 : decode cL_refuses 147 = .ok (.iload_n 2, 1) := by decide +kernel
theorem dL_refuses_148 : decode cL_refuses 148 = .ok (.invokestatic 98, 3) := by decide +kernel
theorem dL_refuses_151 : decode cL_refuses 151 = .ok (.ldc 25, 2) := by decide +kernel
theorem dL_refuses_153 : decode cL_refuses 153 = .ok (.if_icmp .ne 204, 3) := by decide +kernel
theorem dL_refuses_156 : decode cL_refuses 156 = .ok (.aload_n 0, 1) := by decide +kernel
theorem dL_refuses_157 : decode cL_refuses 157 = .ok (.iload_n 2, 1) := by decide +kernel
theorem dL_refuses_158 : decode cL_refuses 158 = .ok (.invokestatic 102, 3) := by decide +kernel
theorem dL_refuses_161 : decode cL_refuses 161 = .ok (.ldc 25, 2) := by decide +kernel
theorem dL_refuses_163 : decode cL_refuses 163 = .ok (.if_icmp .ne 194, 3) := by decide +kernel
theorem dL_refuses_166 : decode cL_refuses 166 = .ok (.aload_n 0, 1) := by decide +kernel
theorem dL_refuses_167 : decode cL_refuses 167 = .ok (.sipush 1001, 3) := by decide +kernel
theorem dL_refuses_170 : decode cL_refuses 170 = .ok (.iload_n 1, 1) := by decide +kernel
theorem dL_refuses_171 : decode cL_refuses 171 = .ok (.iadd, 1) := by decide +kernel
theorem dL_refuses_172 : decode cL_refuses 172 = .ok (.invokestatic 105, 3) := by decide +kernel
theorem dL_refuses_175 : decode cL_refuses 175 = .ok (.ldc 15, 2) := by decide +kernel
theorem dL_refuses_177 : decode cL_refuses 177 = .ok (.if_icmp .ne 180, 3) := by decide +kernel
theorem dL_refuses_180 : decode cL_refuses 180 = .ok (.aload_n 0, 1) := by decide +kernel
theorem dL_refuses_181 : decode cL_refuses 181 = .ok (.sipush (-1001), 3) := by decide +kernel
theorem dL_refuses_184 : decode cL_refuses 184 = .ok (.iload_n 1, 1) := by decide +kernel
theorem dL_refuses_185 : decode cL_refuses 185 = .ok (.isub, 1) := by decide +kernel
theorem dL_refuses_186 : decode cL_refuses 186 = .ok (.invokestatic 105, 3) := by decide +kernel
theorem dL_refuses_189 : decode cL_refuses 189 = .ok (.ldc 15, 2) := by decide +kernel
theorem dL_refuses_191 : decode cL_refuses 191 = .ok (.if_icmp .ne 166, 3) := by decide +kernel
theorem dL_refuses_194 : decode cL_refuses 194 = .ok (.aload_n 0, 1) := by decide +kernel
theorem dL_refuses_195 : decode cL_refuses 195 = .ok (.iconst (-1), 1) := by decide +kernel
theorem dL_refuses_196 : decode cL_refuses 196 = .ok (.iload_n 1, 1) := by decide +kernel
theorem dL_refuses_197 : decode cL_refuses 197 = .ok (.isub, 1) := by decide +kernel
theorem dL_refuses_198 : decode cL_refuses 198 = .ok (.invokestatic 108, 3) := by decide +kernel
theorem dL_refuses_201 : decode cL_refuses 201 = .ok (.ldc 25, 2) := by decide +kernel
theorem dL_refuses_203 : decode cL_refuses 203 = .ok (.if_icmp .ne 154, 3) := by decide +kernel
theorem dL_refuses_206 : decode cL_refuses 206 = .ok (.aload_n 0, 1) := by decide +kernel
theorem dL_refuses_207 : decode cL_refuses 207 = .ok (.aload_n 0, 1) := by decide +kernel
theorem dL_refuses_208 : decode cL_refuses 208 = .ok (.invokevirtual 110, 3) := by decide +kernel
theorem dL_refuses_211 : decode cL_refuses 211 = .ok (.iload_n 1, 1) := by decide +kernel
theorem dL_refuses_212 : decode cL_refuses 212 = .ok (.iadd, 1) := by decide +kernel
theorem dL_refuses_213 : decode cL_refuses 213 = .ok (.invokestatic 108, 3) := by decide +kernel
theorem dL_refuses_216 : decode cL_refuses 216 = .ok (.ldc 25, 2) := by decide +kernel
theorem dL_refuses_218 : decode cL_refuses 218 = .ok (.if_icmp .ne 139, 3) := by decide +kernel
theorem dL_refuses_221 : decode cL_refuses 221 = .ok (.aload_n 0, 1) := by decide +kernel
theorem dL_refuses_222 : decode cL_refuses 222 = .ok (.iload_n 2, 1) := by decide +kernel
theorem dL_refuses_223 : decode cL_refuses 223 = .ok (.invokestatic 113, 3) := by decide +kernel
theorem dL_refuses_226 : decode cL_refuses 226 = .ok (.ldc 25, 2) := by decide +kernel
theorem dL_refuses_228 : decode cL_refuses 228 = .ok (.if_icmp .ne 129, 3) := by decide +kernel
theorem dL_refuses_231 : decode cL_refuses 231 = .ok (.aload_n 0, 1) := by decide +kernel
theorem dL_refuses_232 : decode cL_refuses 232 = .ok (.iload_n 2, 1) := by decide +kernel
theorem dL_refuses_233 : decode cL_refuses 233 = .ok (.invokestatic 116, 3) := by decide +kernel
theorem dL_refuses_236 : decode cL_refuses 236 = .ok (.ldc 25, 2) := by decide +kernel
theorem dL_refuses_238 : decode cL_refuses 238 = .ok (.if_icmp .ne 119, 3) := by decide +kernel
theorem dL_refuses_241 : decode cL_refuses 241 = .ok (.aload_n 0, 1) := by decide +kernel
theorem dL_refuses_242 : decode cL_refuses 242 = .ok (.iload_n 3, 1) := by decide +kernel
theorem dL_refuses_243 : decode cL_refuses 243 = .ok (.invokestatic 119, 3) := by decide +kernel
theorem dL_refuses_246 : decode cL_refuses 246 = .ok (.ldc 25, 2) := by decide +kernel
theorem dL_refuses_248 : decode cL_refuses 248 = .ok (.if_icmp .ne 109, 3) := by decide +kernel
theorem dL_refuses_251 : decode cL_refuses 251 = .ok (.aload_n 0, 1) := by decide +kernel
theorem dL_refuses_252 : decode cL_refuses 252 = .ok (.iload_n 3, 1) := by decide +kernel
theorem dL_refuses_253 : decode cL_refuses 253 = .ok (.invokestatic 121, 3) := by decide +kernel
theorem dL_refuses_256 : decode cL_refuses 256 = .ok (.ldc 25, 2) := by decide +kernel
theorem dL_refuses_258 : decode cL_refuses 258 = .ok (.if_icmp .ne 99, 3) := by decide +kernel
theorem dL_refuses_261 : decode cL_refuses 261 = .ok (.aload_n 0, 1) := by decide +kernel
theorem dL_refuses_262 : decode cL_refuses 262 = .ok (.iconst (-1), 1) := by decide +kernel
theorem dL_refuses_263 : decode cL_refuses 263 = .ok (.iload_n 1, 1) := by decide +kernel
theorem dL_refuses_264 : decode cL_refuses 264 = .ok (.isub, 1) := by decide +kernel
theorem dL_refuses_265 : decode cL_refuses 265 = .ok (.invokestatic 124, 3) := by decide +kernel
theorem dL_refuses_268 : decode cL_refuses 268 = .ok (.ldc 15, 2) := by decide +kernel
theorem dL_refuses_270 : decode cL_refuses 270 = .ok (.if_icmp .ne 87, 3) := by decide +kernel
theorem dL_refuses_273 : decode cL_refuses 273 = .ok (.aload_n 0, 1) := by decide +kernel
theorem dL_refuses_274 : decode cL_refuses 274 = .ok (.aload_n 0, 1) := by decide +kernel
theorem dL_refuses_275 : decode cL_refuses 275 = .ok (.invokevirtual 79, 3) := by decide +kernel
theorem dL_refuses_278 : decode cL_refuses 278 = .ok (.iconst 1, 1) := by decide +kernel
theorem dL_refuses_279 : decode cL_refuses 279 = .ok (.iadd, 1) := by decide +kernel
theorem dL_refuses_280 : decode cL_refuses 280 = .ok (.iload_n 1, 1) := by decide +kernel
theorem dL_refuses_281 : decode cL_refuses 281 = .ok (.iadd, 1) := by decide +kernel
theorem dL_refuses_282 : decode cL_refuses 282 = .ok (.invokestatic 124, 3) := by decide +kernel
theorem dL_refuses_285 : decode cL_refuses 285 = .ok (.ldc 15, 2) := by decide +kernel
theorem dL_refuses_287 : decode cL_refuses 287 = .ok (.if_icmp .ne 70, 3) := by decide +kernel
theorem dL_refuses_290 : decode cL_refuses 290 = .ok (.aload_n 0, 1) := by decide +kernel
theorem dL_refuses_291 : decode cL_refuses 291 = .ok (.iload_n 2, 1) := by decide +kernel
theorem dL_refuses_292 : decode cL_refuses 292 = .ok (.bipush 9, 2) := by decide +kernel
theorem dL_refuses_294 : decode cL_refuses 294 = .ok (.invokestatic 127, 3) := by decide +kernel
theorem dL_refuses_297 : decode cL_refuses 297 = .ok (.ldc 25, 2) := by decide +kernel
theorem dL_refuses_299 : decode cL_refuses 299 = .ok (.if_icmp .ne 58, 3) := by decide +kernel
theorem dL_refuses_302 : decode cL_refuses 302 = .ok (.aload_n 0, 1) := by decide +kernel
theorem dL_refuses_303 : decode cL_refuses 303 = .ok (.iload_n 2, 1) := by decide +kernel
theorem dL_refuses_304 : decode cL_refuses 304 = .ok (.iconst (-1), 1) := by decide +kernel
theorem dL_refuses_305 : decode cL_refuses 305 = .ok (.invokestatic 130, 3) := by decide +kernel
theorem dL_refuses_308 : decode cL_refuses 308 = .ok (.ldc 25, 2) := by decide +kernel
theorem dL_refuses_310 : decode cL_refuses 310 = .ok (.if_icmp .ne 47, 3) := by decide +kernel
theorem dL_refuses_313 : decode cL_refuses 313 = .ok (.aload_n 0, 1) := by decide +kernel
theorem dL_refuses_314 : decode cL_refuses 314 = .ok (.invokevirtual 76, 3) := by decide +kernel
theorem dL_refuses_317 : decode cL_refuses 317 = .ok (.bipush 16, 2) := by decide +kernel
theorem dL_refuses_319 : decode cL_refuses 319 = .ok (.if_icmp .lt 14, 3) := by decide +kernel
theorem dL_refuses_322 : decode cL_refuses 322 = .ok (.aload_n 0, 1) := by decide +kernel
theorem dL_refuses_323 : decode cL_refuses 323 = .ok (.iconst 0, 1) := by decide +kernel
theorem dL_refuses_324 : decode cL_refuses 324 = .ok (.iconst 1, 1) := by decide +kernel
theorem dL_refuses_325 : decode cL_refuses 325 = .ok (.invokestatic 82, 3) := by decide +kernel
theorem dL_refuses_328 : decode cL_refuses 328 = .ok (.ldc 18, 2) := by decide +kernel
theorem dL_refuses_330 : decode cL_refuses 330 = .ok (.if_icmp .ne 27, 3) := by decide +kernel
theorem dL_refuses_333 : decode cL_refuses 333 = .ok (.aload_n 0, 1) := by decide +kernel
theorem dL_refuses_334 : decode cL_refuses 334 = .ok (.invokevirtual 110, 3) := by decide +kernel
theorem dL_refuses_337 : decode cL_refuses 337 = .ok (.sipush 300, 3) := by decide +kernel
theorem dL_refuses_340 : decode cL_refuses 340 = .ok (.if_icmp .lt 13, 3) := by decide +kernel
theorem dL_refuses_343 : decode cL_refuses 343 = .ok (.aload_n 0, 1) := by decide +kernel
theorem dL_refuses_344 : decode cL_refuses 344 = .ok (.iconst 0, 1) := by decide +kernel
theorem dL_refuses_345 : decode cL_refuses 345 = .ok (.invokestatic 105, 3) := by decide +kernel
theorem dL_refuses_348 : decode cL_refuses 348 = .ok (.ldc 18, 2) := by decide +kernel
theorem dL_refuses_350 : decode cL_refuses 350 = .ok (.if_icmp .ne 7, 3) := by decide +kernel
theorem dL_refuses_353 : decode cL_refuses 353 = .ok (.iconst 1, 1) := by decide +kernel
theorem dL_refuses_354 : decode cL_refuses 354 = .ok (.goto 4, 3) := by decide +kernel
theorem dL_refuses_357 : decode cL_refuses 357 = .ok (.iconst 0, 1) := by decide +kernel
theorem dL_refuses_358 : decode cL_refuses 358 = .ok (.istore 4, 2) := by decide +kernel
theorem dL_refuses_360 : decode cL_refuses 360 = .ok (.iload 4, 2) := by decide +kernel
theorem dL_refuses_362 : decode cL_refuses 362 = .ok (.ifCond .eq 184, 3) := by decide +kernel
theorem dL_refuses_365 : decode cL_refuses 365 = .ok (.aload_n 0, 1) := by decide +kernel
theorem dL_refuses_366 : decode cL_refuses 366 = .ok (.invokevirtual 76, 3) := by decide +kernel
theorem dL_refuses_369 : decode cL_refuses 369 = .ok (.ifCond .le 177, 3) := by decide +kernel
theorem dL_refuses_372 : decode cL_refuses 372 = .ok (.iload_n 1, 1) := by decide +kernel
theorem dL_refuses_373 : decode cL_refuses 373 = .ok (.aload_n 0, 1) := by decide +kernel
theorem dL_refuses_374 : decode cL_refuses 374 = .ok (.invokevirtual 76, 3) := by decide +kernel
theorem dL_refuses_377 : decode cL_refuses 377 = .ok (.irem, 1) := by decide +kernel
theorem dL_refuses_378 : decode cL_refuses 378 = .ok (.istore 5, 2) := by decide +kernel
theorem dL_refuses_380 : decode cL_refuses 380 = .ok (.aload_n 0, 1) := by decide +kernel
theorem dL_refuses_381 : decode cL_refuses 381 = .ok (.iload 5, 2) := by decide +kernel
theorem dL_refuses_383 : decode cL_refuses 383 = .ok (.iconst (-1), 1) := by decide +kernel
theorem dL_refuses_384 : decode cL_refuses 384 = .ok (.iload_n 1, 1) := by decide +kernel
theorem dL_refuses_385 : decode cL_refuses 385 = .ok (.isub, 1) := by decide +kernel
theorem dL_refuses_386 : decode cL_refuses 386 = .ok (.iconst 5, 1) := by decide +kernel
theorem dL_refuses_387 : decode cL_refuses 387 = .ok (.invokestatic 88, 3) := by decide +kernel
theorem dL_refuses_390 : decode cL_refuses 390 = .ok (.ldc 15, 2) := by decide +kernel
theorem dL_refuses_392 : decode cL_refuses 392 = .ok (.if_icmp .ne 151, 3) := by decide +kernel
theorem dL_refuses_395 : decode cL_refuses 395 = .ok (.aload_n 0, 1) := by decide +kernel
theorem dL_refuses_396 : decode cL_refuses 396 = .ok (.iload 5, 2) := by decide +kernel
theorem dL_refuses_398 : decode cL_refuses 398 = .ok (.iconst 5, 1) := by decide +kernel
theorem dL_refuses_399 : decode cL_refuses 399 = .ok (.iconst 4, 1) := by decide +kernel
theorem dL_refuses_400 : decode cL_refuses 400 = .ok (.invokestatic 88, 3) := by decide +kernel
theorem dL_refuses_403 : decode cL_refuses 403 = .ok (.ldc 15, 2) := by decide +kernel
theorem dL_refuses_405 : decode cL_refuses 405 = .ok (.if_icmp .ne 138, 3) := by decide +kernel
theorem dL_refuses_408 : decode cL_refuses 408 = .ok (.aload_n 0, 1) := by decide +kernel
theorem dL_refuses_409 : decode cL_refuses 409 = .ok (.iload 5, 2) := by decide +kernel
theorem dL_refuses_411 : decode cL_refuses 411 = .ok (.iconst 0, 1) := by decide +kernel
theorem dL_refuses_412 : decode cL_refuses 412 = .ok (.bipush 9, 2) := by decide +kernel
theorem dL_refuses_414 : decode cL_refuses 414 = .ok (.iload_n 1, 1) := by decide +kernel
theorem dL_refuses_415 : decode cL_refuses 415 = .ok (.iadd, 1) := by decide +kernel
theorem dL_refuses_416 : decode cL_refuses 416 = .ok (.invokestatic 88, 3) := by decide +kernel
theorem dL_refuses_419 : decode cL_refuses 419 = .ok (.ldc 15, 2) := by decide +kernel
theorem dL_refuses_421 : decode cL_refuses 421 = .ok (.if_icmp .ne 122, 3) := by decide +kernel
theorem dL_refuses_424 : decode cL_refuses 424 = .ok (.aload_n 0, 1) := by decide +kernel
theorem dL_refuses_425 : decode cL_refuses 425 = .ok (.iload 5, 2) := by decide +kernel
theorem dL_refuses_427 : decode cL_refuses 427 = .ok (.iload_n 2, 1) := by decide +kernel
theorem dL_refuses_428 : decode cL_refuses 428 = .ok (.invokestatic 96, 3) := by decide +kernel
theorem dL_refuses_431 : decode cL_refuses 431 = .ok (.ldc 25, 2) := by decide +kernel
theorem dL_refuses_433 : decode cL_refuses 433 = .ok (.if_icmp .ne 110, 3) := by decide +kernel
theorem dL_refuses_436 : decode cL_refuses 436 = .ok (.aload_n 0, 1) := by decide +kernel
theorem dL_refuses_437 : decode cL_refuses 437 = .ok (.iload 5, 2) := by decide +kernel
theorem dL_refuses_439 : decode cL_refuses 439 = .ok (.iload 5, 2) := by decide +kernel
theorem dL_refuses_441 : decode cL_refuses 441 = .ok (.invokestatic 96, 3) := by decide +kernel
theorem dL_refuses_444 : decode cL_refuses 444 = .ok (.ldc 15, 2) := by decide +kernel
theorem dL_refuses_446 : decode cL_refuses 446 = .ok (.if_icmp .ne 97, 3) := by decide +kernel
theorem dL_refuses_449 : decode cL_refuses 449 = .ok (.aload_n 0, 1) := by decide +kernel
theorem dL_refuses_450 : decode cL_refuses 450 = .ok (.iload 5, 2) := by decide +kernel
theorem dL_refuses_452 : decode cL_refuses 452 = .ok (.iconst 4, 1) := by decide +kernel
theorem dL_refuses_453 : decode cL_refuses 453 = .ok (.iload_n 1, 1) := by decide +kernel
theorem dL_refuses_454 : decode cL_refuses 454 = .ok (.iadd, 1) := by decide +kernel
theorem dL_refuses_455 : decode cL_refuses 455 = .ok (.invokestatic 127, 3) := by decide +kernel
theorem dL_refuses_458 : decode cL_refuses 458 = .ok (.ldc 15, 2) := by decide +kernel
theorem dL_refuses_460 : decode cL_refuses 460 = .ok (.if_icmp .ne 83, 3) := by decide +kernel
theorem dL_refuses_463 : decode cL_refuses 463 = .ok (.aload_n 0, 1) := by decide +kernel
theorem dL_refuses_464 : decode cL_refuses 464 = .ok (.iload 5, 2) := by decide +kernel
theorem dL_refuses_466 : decode cL_refuses 466 = .ok (.iconst (-1), 1) := by decide +kernel
theorem dL_refuses_467 : decode cL_refuses 467 = .ok (.iload_n 1, 1) := by decide +kernel
theorem dL_refuses_468 : decode cL_refuses 468 = .ok (.isub, 1) := by decide +kernel
theorem dL_refuses_469 : decode cL_refuses 469 = .ok (.invokestatic 127, 3) := by decide +kernel
theorem dL_refuses_472 : decode cL_refuses 472 = .ok (.ldc 15, 2) := by decide +kernel
theorem dL_refuses_474 : decode cL_refuses 474 = .ok (.if_icmp .ne 69, 3) := by decide +kernel
theorem dL_refuses_477 : decode cL_refuses 477 = .ok (.aload_n 0, 1) := by decide +kernel
theorem dL_refuses_478 : decode cL_refuses 478 = .ok (.iload 5, 2) := by decide +kernel
theorem dL_refuses_480 : decode cL_refuses 480 = .ok (.iconst 4, 1) := by decide +kernel
theorem dL_refuses_481 : decode cL_refuses 481 = .ok (.iload_n 1, 1) := by decide +kernel
theorem dL_refuses_482 : decode cL_refuses 482 = .ok (.iadd, 1) := by decide +kernel
theorem dL_refuses_483 : decode cL_refuses 483 = .ok (.invokestatic 130, 3) := by decide +kernel
theorem dL_refuses_486 : decode cL_refuses 486 = .ok (.ldc 15, 2) := by decide +kernel
theorem dL_refuses_488 : decode cL_refuses 488 = .ok (.if_icmp .ne 55, 3) := by decide +kernel
theorem dL_refuses_491 : decode cL_refuses 491 = .ok (.aload_n 0, 1) := by decide +kernel
theorem dL_refuses_492 : decode cL_refuses 492 = .ok (.iload 5, 2) := by decide +kernel
theorem dL_refuses_494 : decode cL_refuses 494 = .ok (.invokestatic 113, 3) := by decide +kernel
theorem dL_refuses_497 : decode cL_refuses 497 = .ok (.iconst (-1), 1) := by decide +kernel
theorem dL_refuses_498 : decode cL_refuses 498 = .ok (.if_icmp .eq 14, 3) := by decide +kernel
theorem dL_refuses_501 : decode cL_refuses 501 = .ok (.aload_n 0, 1) := by decide +kernel
theorem dL_refuses_502 : decode cL_refuses 502 = .ok (.iload 5, 2) := by decide +kernel
theorem dL_refuses_504 : decode cL_refuses 504 = .ok (.invokestatic 116, 3) := by decide +kernel
theorem dL_refuses_507 : decode cL_refuses 507 = .ok (.ldc 18, 2) := by decide +kernel
theorem dL_refuses_509 : decode cL_refuses 509 = .ok (.if_icmp .ne 34, 3) := by decide +kernel
theorem dL_refuses_512 : decode cL_refuses 512 = .ok (.aload_n 0, 1) := by decide +kernel
theorem dL_refuses_513 : decode cL_refuses 513 = .ok (.iload 5, 2) := by decide +kernel
theorem dL_refuses_515 : decode cL_refuses 515 = .ok (.iload_n 1, 1) := by decide +kernel
theorem dL_refuses_516 : decode cL_refuses 516 = .ok (.iconst 4, 1) := by decide +kernel
theorem dL_refuses_517 : decode cL_refuses 517 = .ok (.irem, 1) := by decide +kernel
theorem dL_refuses_518 : decode cL_refuses 518 = .ok (.invokestatic 130, 3) := by decide +kernel
theorem dL_refuses_521 : decode cL_refuses 521 = .ok (.iconst (-1), 1) := by decide +kernel
theorem dL_refuses_522 : decode cL_refuses 522 = .ok (.if_icmp .eq 17, 3) := by decide +kernel
theorem dL_refuses_525 : decode cL_refuses 525 = .ok (.aload_n 0, 1) := by decide +kernel
theorem dL_refuses_526 : decode cL_refuses 526 = .ok (.iload 5, 2) := by decide +kernel
theorem dL_refuses_528 : decode cL_refuses 528 = .ok (.iload_n 1, 1) := by decide +kernel
theorem dL_refuses_529 : decode cL_refuses 529 = .ok (.iconst 4, 1) := by decide +kernel
theorem dL_refuses_530 : decode cL_refuses 530 = .ok (.irem, 1) := by decide +kernel
theorem dL_refuses_531 : decode cL_refuses 531 = .ok (.invokestatic 127, 3) := by decide +kernel
theorem dL_refuses_534 : decode cL_refuses 534 = .ok (.ldc 18, 2) := by decide +kernel
theorem dL_refuses_536 : decode cL_refuses 536 = .ok (.if_icmp .ne 7, 3) := by decide +kernel
theorem dL_refuses_539 : decode cL_refuses 539 = .ok (.iconst 1, 1) := by decide +kernel
theorem dL_refuses_540 : decode cL_refuses 540 = .ok (.goto 4, 3) := by decide +kernel
theorem dL_refuses_543 : decode cL_refuses 543 = .ok (.iconst 0, 1) := by decide +kernel
theorem dL_refuses_544 : decode cL_refuses 544 = .ok (.istore 4, 2) := by decide +kernel
theorem dL_refuses_546 : decode cL_refuses 546 = .ok (.iload 4, 2) := by decide +kernel
theorem dL_refuses_548 : decode cL_refuses 548 = .ok (.ireturn, 1) := by decide +kernel
def wb_L_refuses_512 (kd : Nat → Nat) (post : Int32 → Mm → Prop)  (v0 : Nat) (v1 : Int32) (v5 : Int32) (μ : Mm) (cz : Nat) : Prop := cz + 2 ≤ 160 ∧ wp_L_fault kd v0 v5 (v1 - v1 / (4 : Int32) * (4 : Int32)) μ (fun r258 μ261 => (r258 = (-1 : Int32) → (cz + 2 ≤ 160 ∧ post (1 : Int32) μ261)) ∧ (¬ r258 = (-1 : Int32) → (cz + 5 ≤ 160 ∧ wp_L_reads kd v0 v5 (v1 - v1 / (4 : Int32) * (4 : Int32)) μ261 (fun r265 μ268 => (¬ r265 = (-2000000003 : Int32) → (cz + 5 ≤ 160 ∧ post (0 : Int32) μ268)) ∧ (r265 = (-2000000003 : Int32) → (cz + 5 ≤ 160 ∧ post (1 : Int32) μ268))))))
set_option maxHeartbeats 4000000 in
set_option maxRecDepth 100000 in
theorem tb_L_refuses_512 {p : Program} {l : Launch} {e : Env} {s : State} {m : MethodId} {args : Array Value} {below : List Frame} {meth : Method} {c : Code} {G : gG} {A : Nat → Prop} {kd : Nat → Nat} {post : Int32 → Mm → Prop} (X : Cx p l s m args meth c cL_refuses 6 (some .boolean) RL G A) (hl0 : l.stackTraces = false) (hkd : G.2.2 = kd) : ∀ (v0 : Nat) (v1 : Int32) (v5 : Int32) (μ : Mm) (cz : Nat), wb_L_refuses_512 kd post v0 v1 v5 μ cz → J p l e (rmL (79) 160 1280) s m args below meth c 6 G A (MQ below (QG G A (pI post)) args s 160 1280 A) cz (8 * cz) 512 [(0, .ref v0), (1, .int v1), (5, .int v5)] [] μ := by
  intro v0 v1 v5 μ cz hw
  unfold wb_L_refuses_512 at hw
  refine j_aload_n X (pc' := 513) (kk := 0) (i := 0) 0 rfl rfl dL_refuses_512 rfl ?_
  refine j_iload X (pc' := 515) (i := 5) 2 rfl dL_refuses_513 rfl ?_
  refine j_iload_n X (pc' := 516) (kk := 1) (i := 1) 1 rfl rfl dL_refuses_515 rfl ?_
  refine j_iconst X (pc' := 517) (v := 4) (by decide) dL_refuses_516 rfl ?_
  refine j_irem X (pc' := 518) (by decide) dL_refuses_517 rfl ?_
  obtain ⟨hz257, hw1⟩ := hw
  refine j_callSWi X (pc' := 521) (cells' := cz + 2) (slots' := 8 * (cz) + 12) (As := [.ref v0, .int v5, .int (v1 - v1 / (4 : Int32) * (4 : Int32))]) (rest := []) (c_L_fault l G A hl0 kd hkd v0 v5 (v1 - v1 / (4 : Int32) * (4 : Int32)) μ _ hw1) (gk_L_fault wt_3_138) hd_L_fault (rmL_fit (k1 := 78) (k := 79) (by omega) (by decide)) rfl rfl (Nat.le_of_ble_eq_true rfl) dL_refuses_518 rfl ⟨by show _ ≤ 160; omega, by show _ ≤ 1280; omega⟩ rfl rfl (fun r258 μ261 hw2 => ?_)
  refine j_widen (k1 := cz + 2) (n1 := 8 * (cz + 2)) (by omega) (by omega) ?_
  refine j_iconst X (pc' := 522) (v := (-1)) (by decide) dL_refuses_521 rfl ?_
  refine j_icmp_eq X (pc' := 525) (tgt := 539) dL_refuses_522 rfl (by decide) (fun c262 => ?_) (fun c262 => ?_)
  · have hw3 := hw2.1 c262
    refine j_iconst X (pc' := 540) (v := 1) (by decide) dL_refuses_539 rfl ?_
    refine j_goto X (tgt := 544) dL_refuses_540 (by decide) ?_
    refine j_istore X (pc' := 546) (i := 4) (loc' := [(4, .int ((1 : Int32))), (0, .ref v0), (1, .int v1), (5, .int v5)]) dL_refuses_544 rfl (by decide) rfl ?_
    refine j_iload X (pc' := 548) (i := 4) 0 rfl dL_refuses_546 rfl ?_
    obtain ⟨hz263, hw4⟩ := hw3
    exact j_zret X (Or.inr rfl) ⟨_, rfl, hw4⟩ (by omega) (by omega) dL_refuses_548
  · have hw5 := hw2.2 c262
    refine j_aload_n X (pc' := 526) (kk := 0) (i := 0) 0 rfl rfl dL_refuses_525 rfl ?_
    refine j_iload X (pc' := 528) (i := 5) 2 rfl dL_refuses_526 rfl ?_
    refine j_iload_n X (pc' := 529) (kk := 1) (i := 1) 1 rfl rfl dL_refuses_528 rfl ?_
    refine j_iconst X (pc' := 530) (v := 4) (by decide) dL_refuses_529 rfl ?_
    refine j_irem X (pc' := 531) (by decide) dL_refuses_530 rfl ?_
    obtain ⟨hz264, hw6⟩ := hw5
    refine j_callSWi X (pc' := 534) (cells' := cz + 2 + 3) (slots' := 8 * (cz + 2) + 18) (As := [.ref v0, .int v5, .int (v1 - v1 / (4 : Int32) * (4 : Int32))]) (rest := []) (c_L_reads l G A hl0 kd hkd v0 v5 (v1 - v1 / (4 : Int32) * (4 : Int32)) μ261 _ hw6) (gk_L_reads wt_3_81) hd_L_reads (rmL_fit (k1 := 78) (k := 79) (by omega) (by decide)) rfl rfl (Nat.le_of_ble_eq_true rfl) dL_refuses_531 rfl ⟨by show _ ≤ 160; omega, by show _ ≤ 1280; omega⟩ rfl rfl (fun r265 μ268 hw7 => ?_)
    refine j_widen (k1 := cz + 5) (n1 := 8 * (cz + 5)) (by omega) (by omega) ?_
    refine j_ldc X (pc' := 536) (v := (-2000000003 : Int32)) wt_2_112 dL_refuses_534 rfl ?_
    refine j_icmp_ne X (pc' := 539) (tgt := 543) dL_refuses_536 rfl (by decide) (fun c269 => ?_) (fun c269 => ?_)
    · have hw8 := hw7.1 c269
      refine j_iconst X (pc' := 544) (v := 0) (by decide) dL_refuses_543 rfl ?_
      refine j_istore X (pc' := 546) (i := 4) (loc' := [(4, .int ((0 : Int32))), (0, .ref v0), (1, .int v1), (5, .int v5)]) dL_refuses_544 rfl (by decide) rfl ?_
      refine j_iload X (pc' := 548) (i := 4) 0 rfl dL_refuses_546 rfl ?_
      obtain ⟨hz270, hw9⟩ := hw8
      exact j_zret X (Or.inl rfl) ⟨_, rfl, hw9⟩ (by omega) (by omega) dL_refuses_548
    · have hw10 := hw7.2 c269
      refine j_iconst X (pc' := 540) (v := 1) (by decide) dL_refuses_539 rfl ?_
      refine j_goto X (tgt := 544) dL_refuses_540 (by decide) ?_
      refine j_istore X (pc' := 546) (i := 4) (loc' := [(4, .int ((1 : Int32))), (0, .ref v0), (1, .int v1), (5, .int v5)]) dL_refuses_544 rfl (by decide) rfl ?_
      refine j_iload X (pc' := 548) (i := 4) 0 rfl dL_refuses_546 rfl ?_
      obtain ⟨hz271, hw11⟩ := hw10
      exact j_zret X (Or.inr rfl) ⟨_, rfl, hw11⟩ (by omega) (by omega) dL_refuses_548
def wb_L_refuses_358 (kd : Nat → Nat) (post : Int32 → Mm → Prop)  (v0 : Nat) (v1 : Int32) (v2 : Int32) (s0 : Int32) (μ : Mm) (cz : Nat) : Prop := (s0 = 0 → (cz ≤ 160 ∧ (s0 = 0 ∨ s0 = 1) ∧ post s0 μ)) ∧ (¬ s0 = 0 → (cz ≤ 160 ∧ (∃ f178, μ v0 = some (.inl (5, f178))) ∧ wp_X6_types v0 μ (fun r176 μ179 => (r176 ≤ 0 → (cz ≤ 160 ∧ (s0 = 0 ∨ s0 = 1) ∧ post s0 μ179)) ∧ (¬ r176 ≤ 0 → (cz ≤ 160 ∧ (∃ f185, μ179 v0 = some (.inl (5, f185))) ∧ wp_X6_types v0 μ179 (fun r183 μ186 => ¬ r183 = 0 ∧ cz + 7 ≤ 160 ∧ wp_L_lists kd v0 (v1 - v1 / r183 * r183) ((-1 : Int32) - v1) (5 : Int32) μ186 (fun r189 μ192 => (¬ r189 = (-2000000002 : Int32) → (cz + 7 ≤ 160 ∧ post (0 : Int32) μ192)) ∧ (r189 = (-2000000002 : Int32) → (cz + 14 ≤ 160 ∧ wp_L_lists kd v0 (v1 - v1 / r183 * r183) (5 : Int32) (4 : Int32) μ192 (fun r196 μ199 => (¬ r196 = (-2000000002 : Int32) → (cz + 14 ≤ 160 ∧ post (0 : Int32) μ199)) ∧ (r196 = (-2000000002 : Int32) → (cz + 21 ≤ 160 ∧ wp_L_lists kd v0 (v1 - v1 / r183 * r183) (0 : Int32) ((9 : Int32) + v1) μ199 (fun r203 μ206 => (¬ r203 = (-2000000002 : Int32) → (cz + 21 ≤ 160 ∧ post (0 : Int32) μ206)) ∧ (r203 = (-2000000002 : Int32) → (cz + 24 ≤ 160 ∧ wp_L_extend kd v0 (v1 - v1 / r183 * r183) v2 μ206 (fun r210 μ213 => (¬ r210 = (-2000000001 : Int32) → (cz + 24 ≤ 160 ∧ post (0 : Int32) μ213)) ∧ (r210 = (-2000000001 : Int32) → (cz + 27 ≤ 160 ∧ wp_L_extend kd v0 (v1 - v1 / r183 * r183) (v1 - v1 / r183 * r183) μ213 (fun r217 μ220 => (¬ r217 = (-2000000002 : Int32) → (cz + 27 ≤ 160 ∧ post (0 : Int32) μ220)) ∧ (r217 = (-2000000002 : Int32) → (cz + 30 ≤ 160 ∧ wp_L_reads kd v0 (v1 - v1 / r183 * r183) ((4 : Int32) + v1) μ220 (fun r224 μ227 => (¬ r224 = (-2000000002 : Int32) → (cz + 30 ≤ 160 ∧ post (0 : Int32) μ227)) ∧ (r224 = (-2000000002 : Int32) → (cz + 33 ≤ 160 ∧ wp_L_reads kd v0 (v1 - v1 / r183 * r183) ((-1 : Int32) - v1) μ227 (fun r231 μ234 => (¬ r231 = (-2000000002 : Int32) → (cz + 33 ≤ 160 ∧ post (0 : Int32) μ234)) ∧ (r231 = (-2000000002 : Int32) → (cz + 35 ≤ 160 ∧ wp_L_fault kd v0 (v1 - v1 / r183 * r183) ((4 : Int32) + v1) μ234 (fun r238 μ241 => (¬ r238 = (-2000000002 : Int32) → (cz + 35 ≤ 160 ∧ post (0 : Int32) μ241)) ∧ (r238 = (-2000000002 : Int32) → (cz + 36 ≤ 160 ∧ wp_L_wrong kd v0 (v1 - v1 / r183 * r183) μ241 (fun r245 μ248 => (r245 = (-1 : Int32) → (wb_L_refuses_512 kd post v0 v1 (v1 - v1 / r183 * r183) μ248 (cz + 36))) ∧ (¬ r245 = (-1 : Int32) → (cz + 38 ≤ 160 ∧ wp_L_writes kd v0 (v1 - v1 / r183 * r183) μ248 (fun r251 μ254 => (¬ r251 = (-2000000003 : Int32) → (cz + 38 ≤ 160 ∧ post (0 : Int32) μ254)) ∧ (r251 = (-2000000003 : Int32) → (wb_L_refuses_512 kd post v0 v1 (v1 - v1 / r183 * r183) μ254 (cz + 38)))))))))))))))))))))))))))))))))))))
set_option maxHeartbeats 4000000 in
set_option maxRecDepth 100000 in
theorem tb_L_refuses_358 {p : Program} {l : Launch} {e : Env} {s : State} {m : MethodId} {args : Array Value} {below : List Frame} {meth : Method} {c : Code} {G : gG} {A : Nat → Prop} {kd : Nat → Nat} {post : Int32 → Mm → Prop} (X : Cx p l s m args meth c cL_refuses 6 (some .boolean) RL G A) (hl0 : l.stackTraces = false) (hkd : G.2.2 = kd) : ∀ (v0 : Nat) (v1 : Int32) (v2 : Int32) (s0 : Int32) (μ : Mm) (cz : Nat), wb_L_refuses_358 kd post v0 v1 v2 s0 μ cz → J p l e (rmL (79) 160 1280) s m args below meth c 6 G A (MQ below (QG G A (pI post)) args s 160 1280 A) cz (8 * cz) 358 [(0, .ref v0), (1, .int v1), (2, .int v2)] [.int s0] μ := by
  intro v0 v1 v2 s0 μ cz hw
  unfold wb_L_refuses_358 at hw
  refine j_istore X (pc' := 360) (i := 4) (loc' := [(4, .int s0), (0, .ref v0), (1, .int v1), (2, .int v2)]) dL_refuses_358 rfl (by decide) rfl ?_
  refine j_iload X (pc' := 362) (i := 4) 0 rfl dL_refuses_360 rfl ?_
  refine j_if_eq X (pc' := 365) (tgt := 546) dL_refuses_362 rfl (by decide) (fun c173 => ?_) (fun c173 => ?_)
  · have hw1 := hw.1 c173
    refine j_iload X (pc' := 548) (i := 4) 0 rfl dL_refuses_546 rfl ?_
    obtain ⟨hz174, hw2⟩ := hw1
    have hb := hw2.1
    have hw3 := hw2.2
    exact j_zret X hb ⟨_, rfl, hw3⟩ (by omega) (by omega) dL_refuses_548
  · have hw4 := hw.2 c173
    refine j_aload_n X (pc' := 366) (kk := 0) (i := 0) 1 rfl rfl dL_refuses_365 rfl ?_
    obtain ⟨hz175, hw5⟩ := hw4
    obtain ⟨⟨f178, hm177⟩, hw6⟩ := hw5
    refine j_callVi X (pc' := 369) (cells' := cz + 0) (slots' := 8 * (cz) + 0) (As := []) (rest := []) (c_X6_types l G A v0 μ _ hw6) (gk_X6_types wt_1_128) hd_X6_types (rmL_fit (k1 := 1) (k := 79) (by omega) (by decide)) hm177 rfl rfl rfl (Nat.le_of_ble_eq_true rfl) dL_refuses_366 rfl ⟨by show _ ≤ 160; omega, by show _ ≤ 1280; omega⟩ rfl rfl (fun r176 μ179 hw7 => ?_)
    refine j_widen (k1 := cz) (n1 := 8 * (cz)) (by omega) (by omega) ?_
    refine j_if_le X (pc' := 372) (tgt := 546) dL_refuses_369 rfl (by decide) (fun c180 => ?_) (fun c180 => ?_)
    · have hw8 := hw7.1 c180
      refine j_iload X (pc' := 548) (i := 4) 0 rfl dL_refuses_546 rfl ?_
      obtain ⟨hz181, hw9⟩ := hw8
      have hb := hw9.1
      have hw10 := hw9.2
      exact j_zret X hb ⟨_, rfl, hw10⟩ (by omega) (by omega) dL_refuses_548
    · have hw11 := hw7.2 c180
      refine j_iload_n X (pc' := 373) (kk := 1) (i := 1) 2 rfl rfl dL_refuses_372 rfl ?_
      refine j_aload_n X (pc' := 374) (kk := 0) (i := 0) 1 rfl rfl dL_refuses_373 rfl ?_
      obtain ⟨hz182, hw12⟩ := hw11
      obtain ⟨⟨f185, hm184⟩, hw13⟩ := hw12
      refine j_callVi X (pc' := 377) (cells' := cz + 0) (slots' := 8 * (cz) + 0) (As := []) (rest := [.int v1]) (c_X6_types l G A v0 μ179 _ hw13) (gk_X6_types wt_1_128) hd_X6_types (rmL_fit (k1 := 1) (k := 79) (by omega) (by decide)) hm184 rfl rfl rfl (Nat.le_of_ble_eq_true rfl) dL_refuses_374 rfl ⟨by show _ ≤ 160; omega, by show _ ≤ 1280; omega⟩ rfl rfl (fun r183 μ186 hw14 => ?_)
      refine j_widen (k1 := cz) (n1 := 8 * (cz)) (by omega) (by omega) ?_
      obtain ⟨h187, hw15⟩ := hw14
      refine j_irem X (pc' := 378) h187 dL_refuses_377 rfl ?_
      refine j_istore X (pc' := 380) (i := 5) (loc' := [(5, .int (v1 - v1 / r183 * r183)), (4, .int s0), (0, .ref v0), (1, .int v1), (2, .int v2)]) dL_refuses_378 rfl (by decide) rfl ?_
      refine j_aload_n X (pc' := 381) (kk := 0) (i := 0) 2 rfl rfl dL_refuses_380 rfl ?_
      refine j_iload X (pc' := 383) (i := 5) 0 rfl dL_refuses_381 rfl ?_
      refine j_iconst X (pc' := 384) (v := (-1)) (by decide) dL_refuses_383 rfl ?_
      refine j_iload_n X (pc' := 385) (kk := 1) (i := 1) 3 rfl rfl dL_refuses_384 rfl ?_
      refine j_isub X (pc' := 386) dL_refuses_385 rfl ?_
      refine j_iconst X (pc' := 387) (v := 5) (by decide) dL_refuses_386 rfl ?_
      obtain ⟨hz188, hw16⟩ := hw15
      refine j_callSWi X (pc' := 390) (cells' := cz + 7) (slots' := 8 * (cz) + 30) (As := [.ref v0, .int (v1 - v1 / r183 * r183), .int ((-1 : Int32) - v1), .int ((5 : Int32))]) (rest := []) (c_L_lists l G A hl0 kd hkd v0 (v1 - v1 / r183 * r183) ((-1 : Int32) - v1) (5 : Int32) μ186 _ hw16) (gk_L_lists wt_2_113) hd_L_lists (rmL_fit (k1 := 5) (k := 79) (by omega) (by decide)) rfl rfl (Nat.le_of_ble_eq_true rfl) dL_refuses_387 rfl ⟨by show _ ≤ 160; omega, by show _ ≤ 1280; omega⟩ rfl rfl (fun r189 μ192 hw17 => ?_)
      refine j_widen (k1 := cz + 7) (n1 := 8 * (cz + 7)) (by omega) (by omega) ?_
      refine j_ldc X (pc' := 392) (v := (-2000000002 : Int32)) wt_2_111 dL_refuses_390 rfl ?_
      refine j_icmp_ne X (pc' := 395) (tgt := 543) dL_refuses_392 rfl (by decide) (fun c193 => ?_) (fun c193 => ?_)
      · have hw18 := hw17.1 c193
        refine j_iconst X (pc' := 544) (v := 0) (by decide) dL_refuses_543 rfl ?_
        refine j_istore X (pc' := 546) (i := 4) (loc' := [(4, .int ((0 : Int32))), (5, .int (v1 - v1 / r183 * r183)), (0, .ref v0), (1, .int v1), (2, .int v2)]) dL_refuses_544 rfl (by decide) rfl ?_
        refine j_iload X (pc' := 548) (i := 4) 0 rfl dL_refuses_546 rfl ?_
        obtain ⟨hz194, hw19⟩ := hw18
        exact j_zret X (Or.inl rfl) ⟨_, rfl, hw19⟩ (by omega) (by omega) dL_refuses_548
      · have hw20 := hw17.2 c193
        refine j_aload_n X (pc' := 396) (kk := 0) (i := 0) 2 rfl rfl dL_refuses_395 rfl ?_
        refine j_iload X (pc' := 398) (i := 5) 0 rfl dL_refuses_396 rfl ?_
        refine j_iconst X (pc' := 399) (v := 5) (by decide) dL_refuses_398 rfl ?_
        refine j_iconst X (pc' := 400) (v := 4) (by decide) dL_refuses_399 rfl ?_
        obtain ⟨hz195, hw21⟩ := hw20
        refine j_callSWi X (pc' := 403) (cells' := cz + 7 + 7) (slots' := 8 * (cz + 7) + 30) (As := [.ref v0, .int (v1 - v1 / r183 * r183), .int ((5 : Int32)), .int ((4 : Int32))]) (rest := []) (c_L_lists l G A hl0 kd hkd v0 (v1 - v1 / r183 * r183) (5 : Int32) (4 : Int32) μ192 _ hw21) (gk_L_lists wt_2_113) hd_L_lists (rmL_fit (k1 := 5) (k := 79) (by omega) (by decide)) rfl rfl (Nat.le_of_ble_eq_true rfl) dL_refuses_400 rfl ⟨by show _ ≤ 160; omega, by show _ ≤ 1280; omega⟩ rfl rfl (fun r196 μ199 hw22 => ?_)
        refine j_widen (k1 := cz + 14) (n1 := 8 * (cz + 14)) (by omega) (by omega) ?_
        refine j_ldc X (pc' := 405) (v := (-2000000002 : Int32)) wt_2_111 dL_refuses_403 rfl ?_
        refine j_icmp_ne X (pc' := 408) (tgt := 543) dL_refuses_405 rfl (by decide) (fun c200 => ?_) (fun c200 => ?_)
        · have hw23 := hw22.1 c200
          refine j_iconst X (pc' := 544) (v := 0) (by decide) dL_refuses_543 rfl ?_
          refine j_istore X (pc' := 546) (i := 4) (loc' := [(4, .int ((0 : Int32))), (5, .int (v1 - v1 / r183 * r183)), (0, .ref v0), (1, .int v1), (2, .int v2)]) dL_refuses_544 rfl (by decide) rfl ?_
          refine j_iload X (pc' := 548) (i := 4) 0 rfl dL_refuses_546 rfl ?_
          obtain ⟨hz201, hw24⟩ := hw23
          exact j_zret X (Or.inl rfl) ⟨_, rfl, hw24⟩ (by omega) (by omega) dL_refuses_548
        · have hw25 := hw22.2 c200
          refine j_aload_n X (pc' := 409) (kk := 0) (i := 0) 2 rfl rfl dL_refuses_408 rfl ?_
          refine j_iload X (pc' := 411) (i := 5) 0 rfl dL_refuses_409 rfl ?_
          refine j_iconst X (pc' := 412) (v := 0) (by decide) dL_refuses_411 rfl ?_
          refine j_bipush X (pc' := 414) (v := 9) (by decide) dL_refuses_412 rfl ?_
          refine j_iload_n X (pc' := 415) (kk := 1) (i := 1) 3 rfl rfl dL_refuses_414 rfl ?_
          refine j_iadd X (pc' := 416) dL_refuses_415 rfl ?_
          obtain ⟨hz202, hw26⟩ := hw25
          refine j_callSWi X (pc' := 419) (cells' := cz + 14 + 7) (slots' := 8 * (cz + 14) + 30) (As := [.ref v0, .int (v1 - v1 / r183 * r183), .int ((0 : Int32)), .int ((9 : Int32) + v1)]) (rest := []) (c_L_lists l G A hl0 kd hkd v0 (v1 - v1 / r183 * r183) (0 : Int32) ((9 : Int32) + v1) μ199 _ hw26) (gk_L_lists wt_2_113) hd_L_lists (rmL_fit (k1 := 5) (k := 79) (by omega) (by decide)) rfl rfl (Nat.le_of_ble_eq_true rfl) dL_refuses_416 rfl ⟨by show _ ≤ 160; omega, by show _ ≤ 1280; omega⟩ rfl rfl (fun r203 μ206 hw27 => ?_)
          refine j_widen (k1 := cz + 21) (n1 := 8 * (cz + 21)) (by omega) (by omega) ?_
          refine j_ldc X (pc' := 421) (v := (-2000000002 : Int32)) wt_2_111 dL_refuses_419 rfl ?_
          refine j_icmp_ne X (pc' := 424) (tgt := 543) dL_refuses_421 rfl (by decide) (fun c207 => ?_) (fun c207 => ?_)
          · have hw28 := hw27.1 c207
            refine j_iconst X (pc' := 544) (v := 0) (by decide) dL_refuses_543 rfl ?_
            refine j_istore X (pc' := 546) (i := 4) (loc' := [(4, .int ((0 : Int32))), (5, .int (v1 - v1 / r183 * r183)), (0, .ref v0), (1, .int v1), (2, .int v2)]) dL_refuses_544 rfl (by decide) rfl ?_
            refine j_iload X (pc' := 548) (i := 4) 0 rfl dL_refuses_546 rfl ?_
            obtain ⟨hz208, hw29⟩ := hw28
            exact j_zret X (Or.inl rfl) ⟨_, rfl, hw29⟩ (by omega) (by omega) dL_refuses_548
          · have hw30 := hw27.2 c207
            refine j_aload_n X (pc' := 425) (kk := 0) (i := 0) 2 rfl rfl dL_refuses_424 rfl ?_
            refine j_iload X (pc' := 427) (i := 5) 0 rfl dL_refuses_425 rfl ?_
            refine j_iload_n X (pc' := 428) (kk := 2) (i := 2) 4 rfl rfl dL_refuses_427 rfl ?_
            obtain ⟨hz209, hw31⟩ := hw30
            refine j_callSWi X (pc' := 431) (cells' := cz + 21 + 3) (slots' := 8 * (cz + 21) + 18) (As := [.ref v0, .int (v1 - v1 / r183 * r183), .int v2]) (rest := []) (c_L_extend l G A hl0 kd hkd v0 (v1 - v1 / r183 * r183) v2 μ206 _ hw31) (gk_L_extend wt_2_153) hd_L_extend (rmL_fit (k1 := 5) (k := 79) (by omega) (by decide)) rfl rfl (Nat.le_of_ble_eq_true rfl) dL_refuses_428 rfl ⟨by show _ ≤ 160; omega, by show _ ≤ 1280; omega⟩ rfl rfl (fun r210 μ213 hw32 => ?_)
            refine j_widen (k1 := cz + 24) (n1 := 8 * (cz + 24)) (by omega) (by omega) ?_
            refine j_ldc X (pc' := 433) (v := (-2000000001 : Int32)) wt_2_144 dL_refuses_431 rfl ?_
            refine j_icmp_ne X (pc' := 436) (tgt := 543) dL_refuses_433 rfl (by decide) (fun c214 => ?_) (fun c214 => ?_)
            · have hw33 := hw32.1 c214
              refine j_iconst X (pc' := 544) (v := 0) (by decide) dL_refuses_543 rfl ?_
              refine j_istore X (pc' := 546) (i := 4) (loc' := [(4, .int ((0 : Int32))), (5, .int (v1 - v1 / r183 * r183)), (0, .ref v0), (1, .int v1), (2, .int v2)]) dL_refuses_544 rfl (by decide) rfl ?_
              refine j_iload X (pc' := 548) (i := 4) 0 rfl dL_refuses_546 rfl ?_
              obtain ⟨hz215, hw34⟩ := hw33
              exact j_zret X (Or.inl rfl) ⟨_, rfl, hw34⟩ (by omega) (by omega) dL_refuses_548
            · have hw35 := hw32.2 c214
              refine j_aload_n X (pc' := 437) (kk := 0) (i := 0) 2 rfl rfl dL_refuses_436 rfl ?_
              refine j_iload X (pc' := 439) (i := 5) 0 rfl dL_refuses_437 rfl ?_
              refine j_iload X (pc' := 441) (i := 5) 0 rfl dL_refuses_439 rfl ?_
              obtain ⟨hz216, hw36⟩ := hw35
              refine j_callSWi X (pc' := 444) (cells' := cz + 24 + 3) (slots' := 8 * (cz + 24) + 18) (As := [.ref v0, .int (v1 - v1 / r183 * r183), .int (v1 - v1 / r183 * r183)]) (rest := []) (c_L_extend l G A hl0 kd hkd v0 (v1 - v1 / r183 * r183) (v1 - v1 / r183 * r183) μ213 _ hw36) (gk_L_extend wt_2_153) hd_L_extend (rmL_fit (k1 := 5) (k := 79) (by omega) (by decide)) rfl rfl (Nat.le_of_ble_eq_true rfl) dL_refuses_441 rfl ⟨by show _ ≤ 160; omega, by show _ ≤ 1280; omega⟩ rfl rfl (fun r217 μ220 hw37 => ?_)
              refine j_widen (k1 := cz + 27) (n1 := 8 * (cz + 27)) (by omega) (by omega) ?_
              refine j_ldc X (pc' := 446) (v := (-2000000002 : Int32)) wt_2_111 dL_refuses_444 rfl ?_
              refine j_icmp_ne X (pc' := 449) (tgt := 543) dL_refuses_446 rfl (by decide) (fun c221 => ?_) (fun c221 => ?_)
              · have hw38 := hw37.1 c221
                refine j_iconst X (pc' := 544) (v := 0) (by decide) dL_refuses_543 rfl ?_
                refine j_istore X (pc' := 546) (i := 4) (loc' := [(4, .int ((0 : Int32))), (5, .int (v1 - v1 / r183 * r183)), (0, .ref v0), (1, .int v1), (2, .int v2)]) dL_refuses_544 rfl (by decide) rfl ?_
                refine j_iload X (pc' := 548) (i := 4) 0 rfl dL_refuses_546 rfl ?_
                obtain ⟨hz222, hw39⟩ := hw38
                exact j_zret X (Or.inl rfl) ⟨_, rfl, hw39⟩ (by omega) (by omega) dL_refuses_548
              · have hw40 := hw37.2 c221
                refine j_aload_n X (pc' := 450) (kk := 0) (i := 0) 2 rfl rfl dL_refuses_449 rfl ?_
                refine j_iload X (pc' := 452) (i := 5) 0 rfl dL_refuses_450 rfl ?_
                refine j_iconst X (pc' := 453) (v := 4) (by decide) dL_refuses_452 rfl ?_
                refine j_iload_n X (pc' := 454) (kk := 1) (i := 1) 3 rfl rfl dL_refuses_453 rfl ?_
                refine j_iadd X (pc' := 455) dL_refuses_454 rfl ?_
                obtain ⟨hz223, hw41⟩ := hw40
                refine j_callSWi X (pc' := 458) (cells' := cz + 27 + 3) (slots' := 8 * (cz + 27) + 18) (As := [.ref v0, .int (v1 - v1 / r183 * r183), .int ((4 : Int32) + v1)]) (rest := []) (c_L_reads l G A hl0 kd hkd v0 (v1 - v1 / r183 * r183) ((4 : Int32) + v1) μ220 _ hw41) (gk_L_reads wt_3_81) hd_L_reads (rmL_fit (k1 := 78) (k := 79) (by omega) (by decide)) rfl rfl (Nat.le_of_ble_eq_true rfl) dL_refuses_455 rfl ⟨by show _ ≤ 160; omega, by show _ ≤ 1280; omega⟩ rfl rfl (fun r224 μ227 hw42 => ?_)
                refine j_widen (k1 := cz + 30) (n1 := 8 * (cz + 30)) (by omega) (by omega) ?_
                refine j_ldc X (pc' := 460) (v := (-2000000002 : Int32)) wt_2_111 dL_refuses_458 rfl ?_
                refine j_icmp_ne X (pc' := 463) (tgt := 543) dL_refuses_460 rfl (by decide) (fun c228 => ?_) (fun c228 => ?_)
                · have hw43 := hw42.1 c228
                  refine j_iconst X (pc' := 544) (v := 0) (by decide) dL_refuses_543 rfl ?_
                  refine j_istore X (pc' := 546) (i := 4) (loc' := [(4, .int ((0 : Int32))), (5, .int (v1 - v1 / r183 * r183)), (0, .ref v0), (1, .int v1), (2, .int v2)]) dL_refuses_544 rfl (by decide) rfl ?_
                  refine j_iload X (pc' := 548) (i := 4) 0 rfl dL_refuses_546 rfl ?_
                  obtain ⟨hz229, hw44⟩ := hw43
                  exact j_zret X (Or.inl rfl) ⟨_, rfl, hw44⟩ (by omega) (by omega) dL_refuses_548
                · have hw45 := hw42.2 c228
                  refine j_aload_n X (pc' := 464) (kk := 0) (i := 0) 2 rfl rfl dL_refuses_463 rfl ?_
                  refine j_iload X (pc' := 466) (i := 5) 0 rfl dL_refuses_464 rfl ?_
                  refine j_iconst X (pc' := 467) (v := (-1)) (by decide) dL_refuses_466 rfl ?_
                  refine j_iload_n X (pc' := 468) (kk := 1) (i := 1) 3 rfl rfl dL_refuses_467 rfl ?_
                  refine j_isub X (pc' := 469) dL_refuses_468 rfl ?_
                  obtain ⟨hz230, hw46⟩ := hw45
                  refine j_callSWi X (pc' := 472) (cells' := cz + 30 + 3) (slots' := 8 * (cz + 30) + 18) (As := [.ref v0, .int (v1 - v1 / r183 * r183), .int ((-1 : Int32) - v1)]) (rest := []) (c_L_reads l G A hl0 kd hkd v0 (v1 - v1 / r183 * r183) ((-1 : Int32) - v1) μ227 _ hw46) (gk_L_reads wt_3_81) hd_L_reads (rmL_fit (k1 := 78) (k := 79) (by omega) (by decide)) rfl rfl (Nat.le_of_ble_eq_true rfl) dL_refuses_469 rfl ⟨by show _ ≤ 160; omega, by show _ ≤ 1280; omega⟩ rfl rfl (fun r231 μ234 hw47 => ?_)
                  refine j_widen (k1 := cz + 33) (n1 := 8 * (cz + 33)) (by omega) (by omega) ?_
                  refine j_ldc X (pc' := 474) (v := (-2000000002 : Int32)) wt_2_111 dL_refuses_472 rfl ?_
                  refine j_icmp_ne X (pc' := 477) (tgt := 543) dL_refuses_474 rfl (by decide) (fun c235 => ?_) (fun c235 => ?_)
                  · have hw48 := hw47.1 c235
                    refine j_iconst X (pc' := 544) (v := 0) (by decide) dL_refuses_543 rfl ?_
                    refine j_istore X (pc' := 546) (i := 4) (loc' := [(4, .int ((0 : Int32))), (5, .int (v1 - v1 / r183 * r183)), (0, .ref v0), (1, .int v1), (2, .int v2)]) dL_refuses_544 rfl (by decide) rfl ?_
                    refine j_iload X (pc' := 548) (i := 4) 0 rfl dL_refuses_546 rfl ?_
                    obtain ⟨hz236, hw49⟩ := hw48
                    exact j_zret X (Or.inl rfl) ⟨_, rfl, hw49⟩ (by omega) (by omega) dL_refuses_548
                  · have hw50 := hw47.2 c235
                    refine j_aload_n X (pc' := 478) (kk := 0) (i := 0) 2 rfl rfl dL_refuses_477 rfl ?_
                    refine j_iload X (pc' := 480) (i := 5) 0 rfl dL_refuses_478 rfl ?_
                    refine j_iconst X (pc' := 481) (v := 4) (by decide) dL_refuses_480 rfl ?_
                    refine j_iload_n X (pc' := 482) (kk := 1) (i := 1) 3 rfl rfl dL_refuses_481 rfl ?_
                    refine j_iadd X (pc' := 483) dL_refuses_482 rfl ?_
                    obtain ⟨hz237, hw51⟩ := hw50
                    refine j_callSWi X (pc' := 486) (cells' := cz + 33 + 2) (slots' := 8 * (cz + 33) + 12) (As := [.ref v0, .int (v1 - v1 / r183 * r183), .int ((4 : Int32) + v1)]) (rest := []) (c_L_fault l G A hl0 kd hkd v0 (v1 - v1 / r183 * r183) ((4 : Int32) + v1) μ234 _ hw51) (gk_L_fault wt_3_138) hd_L_fault (rmL_fit (k1 := 78) (k := 79) (by omega) (by decide)) rfl rfl (Nat.le_of_ble_eq_true rfl) dL_refuses_483 rfl ⟨by show _ ≤ 160; omega, by show _ ≤ 1280; omega⟩ rfl rfl (fun r238 μ241 hw52 => ?_)
                    refine j_widen (k1 := cz + 35) (n1 := 8 * (cz + 35)) (by omega) (by omega) ?_
                    refine j_ldc X (pc' := 488) (v := (-2000000002 : Int32)) wt_2_111 dL_refuses_486 rfl ?_
                    refine j_icmp_ne X (pc' := 491) (tgt := 543) dL_refuses_488 rfl (by decide) (fun c242 => ?_) (fun c242 => ?_)
                    · have hw53 := hw52.1 c242
                      refine j_iconst X (pc' := 544) (v := 0) (by decide) dL_refuses_543 rfl ?_
                      refine j_istore X (pc' := 546) (i := 4) (loc' := [(4, .int ((0 : Int32))), (5, .int (v1 - v1 / r183 * r183)), (0, .ref v0), (1, .int v1), (2, .int v2)]) dL_refuses_544 rfl (by decide) rfl ?_
                      refine j_iload X (pc' := 548) (i := 4) 0 rfl dL_refuses_546 rfl ?_
                      obtain ⟨hz243, hw54⟩ := hw53
                      exact j_zret X (Or.inl rfl) ⟨_, rfl, hw54⟩ (by omega) (by omega) dL_refuses_548
                    · have hw55 := hw52.2 c242
                      refine j_aload_n X (pc' := 492) (kk := 0) (i := 0) 2 rfl rfl dL_refuses_491 rfl ?_
                      refine j_iload X (pc' := 494) (i := 5) 0 rfl dL_refuses_492 rfl ?_
                      obtain ⟨hz244, hw56⟩ := hw55
                      refine j_callSWi X (pc' := 497) (cells' := cz + 35 + 1) (slots' := 8 * (cz + 35) + 6) (As := [.ref v0, .int (v1 - v1 / r183 * r183)]) (rest := []) (c_L_wrong l G A hl0 kd hkd v0 (v1 - v1 / r183 * r183) μ241 _ hw56) (gk_L_wrong wt_2_225) hd_L_wrong (rmL_fit (k1 := 77) (k := 79) (by omega) (by decide)) rfl rfl (Nat.le_of_ble_eq_true rfl) dL_refuses_494 rfl ⟨by show _ ≤ 160; omega, by show _ ≤ 1280; omega⟩ rfl rfl (fun r245 μ248 hw57 => ?_)
                      refine j_widen (k1 := cz + 36) (n1 := 8 * (cz + 36)) (by omega) (by omega) ?_
                      refine j_iconst X (pc' := 498) (v := (-1)) (by decide) dL_refuses_497 rfl ?_
                      refine j_icmp_eq X (pc' := 501) (tgt := 512) dL_refuses_498 rfl (by decide) (fun c249 => ?_) (fun c249 => ?_)
                      · have hw58 := hw57.1 c249
                        refine j_loc [2, 3, 0] rfl ?_
                        exact tb_L_refuses_512 X hl0 hkd _ _ _ _ _ hw58
                      · have hw59 := hw57.2 c249
                        refine j_aload_n X (pc' := 502) (kk := 0) (i := 0) 2 rfl rfl dL_refuses_501 rfl ?_
                        refine j_iload X (pc' := 504) (i := 5) 0 rfl dL_refuses_502 rfl ?_
                        obtain ⟨hz250, hw60⟩ := hw59
                        refine j_callSWi X (pc' := 507) (cells' := cz + 36 + 2) (slots' := 8 * (cz + 36) + 12) (As := [.ref v0, .int (v1 - v1 / r183 * r183)]) (rest := []) (c_L_writes l G A hl0 kd hkd v0 (v1 - v1 / r183 * r183) μ248 _ hw60) (gk_L_writes wt_3_40) hd_L_writes (rmL_fit (k1 := 77) (k := 79) (by omega) (by decide)) rfl rfl (Nat.le_of_ble_eq_true rfl) dL_refuses_504 rfl ⟨by show _ ≤ 160; omega, by show _ ≤ 1280; omega⟩ rfl rfl (fun r251 μ254 hw61 => ?_)
                        refine j_widen (k1 := cz + 38) (n1 := 8 * (cz + 38)) (by omega) (by omega) ?_
                        refine j_ldc X (pc' := 509) (v := (-2000000003 : Int32)) wt_2_112 dL_refuses_507 rfl ?_
                        refine j_icmp_ne X (pc' := 512) (tgt := 543) dL_refuses_509 rfl (by decide) (fun c255 => ?_) (fun c255 => ?_)
                        · have hw62 := hw61.1 c255
                          refine j_iconst X (pc' := 544) (v := 0) (by decide) dL_refuses_543 rfl ?_
                          refine j_istore X (pc' := 546) (i := 4) (loc' := [(4, .int ((0 : Int32))), (5, .int (v1 - v1 / r183 * r183)), (0, .ref v0), (1, .int v1), (2, .int v2)]) dL_refuses_544 rfl (by decide) rfl ?_
                          refine j_iload X (pc' := 548) (i := 4) 0 rfl dL_refuses_546 rfl ?_
                          obtain ⟨hz256, hw63⟩ := hw62
                          exact j_zret X (Or.inl rfl) ⟨_, rfl, hw63⟩ (by omega) (by omega) dL_refuses_548
                        · have hw64 := hw61.2 c255
                          refine j_loc [2, 3, 0] rfl ?_
                          exact tb_L_refuses_512 X hl0 hkd _ _ _ _ _ hw64
def wb_L_refuses_357 (kd : Nat → Nat) (post : Int32 → Mm → Prop)  (v0 : Nat) (v1 : Int32) (v2 : Int32) (μ : Mm) (cz : Nat) : Prop := wb_L_refuses_358 kd post v0 v1 v2 (0 : Int32) μ cz
set_option maxHeartbeats 4000000 in
set_option maxRecDepth 100000 in
theorem tb_L_refuses_357 {p : Program} {l : Launch} {e : Env} {s : State} {m : MethodId} {args : Array Value} {below : List Frame} {meth : Method} {c : Code} {G : gG} {A : Nat → Prop} {kd : Nat → Nat} {post : Int32 → Mm → Prop} (X : Cx p l s m args meth c cL_refuses 6 (some .boolean) RL G A) (hl0 : l.stackTraces = false) (hkd : G.2.2 = kd) : ∀ (v0 : Nat) (v1 : Int32) (v2 : Int32) (μ : Mm) (cz : Nat), wb_L_refuses_357 kd post v0 v1 v2 μ cz → J p l e (rmL (79) 160 1280) s m args below meth c 6 G A (MQ below (QG G A (pI post)) args s 160 1280 A) cz (8 * cz) 357 [(0, .ref v0), (1, .int v1), (2, .int v2)] [] μ := by
  intro v0 v1 v2 μ cz hw
  unfold wb_L_refuses_357 at hw
  refine j_iconst X (pc' := 358) (v := 0) (by decide) dL_refuses_357 rfl ?_
  exact tb_L_refuses_358 X hl0 hkd _ _ _ _ _ _ hw
def wb_L_refuses_333 (kd : Nat → Nat) (post : Int32 → Mm → Prop)  (v0 : Nat) (v1 : Int32) (v2 : Int32) (μ : Mm) (cz : Nat) : Prop := cz ≤ 160 ∧ (∃ f164, μ v0 = some (.inl (5, f164))) ∧ wp_X6_length v0 μ (fun r162 μ165 => (r162 < (300 : Int32) → (wb_L_refuses_358 kd post v0 v1 v2 (1 : Int32) μ165 cz)) ∧ (¬ r162 < (300 : Int32) → (cz + 1 ≤ 160 ∧ wp_L_tells v0 (0 : Int32) μ165 (fun r168 μ171 => (¬ r168 = (-2000000003 : Int32) → (wb_L_refuses_357 kd post v0 v1 v2 μ171 (cz + 1))) ∧ (r168 = (-2000000003 : Int32) → (wb_L_refuses_358 kd post v0 v1 v2 (1 : Int32) μ171 (cz + 1)))))))
set_option maxHeartbeats 4000000 in
set_option maxRecDepth 100000 in
theorem tb_L_refuses_333 {p : Program} {l : Launch} {e : Env} {s : State} {m : MethodId} {args : Array Value} {below : List Frame} {meth : Method} {c : Code} {G : gG} {A : Nat → Prop} {kd : Nat → Nat} {post : Int32 → Mm → Prop} (X : Cx p l s m args meth c cL_refuses 6 (some .boolean) RL G A) (hl0 : l.stackTraces = false) (hkd : G.2.2 = kd) : ∀ (v0 : Nat) (v1 : Int32) (v2 : Int32) (μ : Mm) (cz : Nat), wb_L_refuses_333 kd post v0 v1 v2 μ cz → J p l e (rmL (79) 160 1280) s m args below meth c 6 G A (MQ below (QG G A (pI post)) args s 160 1280 A) cz (8 * cz) 333 [(0, .ref v0), (1, .int v1), (2, .int v2)] [] μ := by
  intro v0 v1 v2 μ cz hw
  unfold wb_L_refuses_333 at hw
  refine j_aload_n X (pc' := 334) (kk := 0) (i := 0) 0 rfl rfl dL_refuses_333 rfl ?_
  obtain ⟨hz161, hw1⟩ := hw
  obtain ⟨⟨f164, hm163⟩, hw2⟩ := hw1
  refine j_callVi X (pc' := 337) (cells' := cz + 0) (slots' := 8 * (cz) + 0) (As := []) (rest := []) (c_X6_length l G A v0 μ _ hw2) (gk_X6_length wt_2_221) hd_X6_length (rmL_fit (k1 := 1) (k := 79) (by omega) (by decide)) hm163 rfl rfl rfl (Nat.le_of_ble_eq_true rfl) dL_refuses_334 rfl ⟨by show _ ≤ 160; omega, by show _ ≤ 1280; omega⟩ rfl rfl (fun r162 μ165 hw3 => ?_)
  refine j_widen (k1 := cz) (n1 := 8 * (cz)) (by omega) (by omega) ?_
  refine j_sipush X (pc' := 340) (v := 300) (by decide) dL_refuses_337 rfl ?_
  refine j_icmp_lt X (pc' := 343) (tgt := 353) dL_refuses_340 rfl (by decide) (fun c166 => ?_) (fun c166 => ?_)
  · have hw4 := hw3.1 c166
    refine j_iconst X (pc' := 354) (v := 1) (by decide) dL_refuses_353 rfl ?_
    refine j_goto X (tgt := 358) dL_refuses_354 (by decide) ?_
    exact tb_L_refuses_358 X hl0 hkd _ _ _ _ _ _ hw4
  · have hw5 := hw3.2 c166
    refine j_aload_n X (pc' := 344) (kk := 0) (i := 0) 0 rfl rfl dL_refuses_343 rfl ?_
    refine j_iconst X (pc' := 345) (v := 0) (by decide) dL_refuses_344 rfl ?_
    obtain ⟨hz167, hw6⟩ := hw5
    refine j_callSWi X (pc' := 348) (cells' := cz + 1) (slots' := 8 * (cz) + 6) (As := [.ref v0, .int ((0 : Int32))]) (rest := []) (c_L_tells l G A hl0 v0 (0 : Int32) μ165 _ hw6) (gk_L_tells wt_2_188) hd_L_tells (rmL_fit (k1 := 2) (k := 79) (by omega) (by decide)) rfl rfl (Nat.le_of_ble_eq_true rfl) dL_refuses_345 rfl ⟨by show _ ≤ 160; omega, by show _ ≤ 1280; omega⟩ rfl rfl (fun r168 μ171 hw7 => ?_)
    refine j_widen (k1 := cz + 1) (n1 := 8 * (cz + 1)) (by omega) (by omega) ?_
    refine j_ldc X (pc' := 350) (v := (-2000000003 : Int32)) wt_2_112 dL_refuses_348 rfl ?_
    refine j_icmp_ne X (pc' := 353) (tgt := 357) dL_refuses_350 rfl (by decide) (fun c172 => ?_) (fun c172 => ?_)
    · have hw8 := hw7.1 c172
      exact tb_L_refuses_357 X hl0 hkd _ _ _ _ _ hw8
    · have hw9 := hw7.2 c172
      refine j_iconst X (pc' := 354) (v := 1) (by decide) dL_refuses_353 rfl ?_
      refine j_goto X (tgt := 358) dL_refuses_354 (by decide) ?_
      exact tb_L_refuses_358 X hl0 hkd _ _ _ _ _ _ hw9
def wb_L_refuses_49 (kd : Nat → Nat) (post : Int32 → Mm → Prop)  (v0 : Nat) (v1 : Int32) (v2 : Int32) (s0 : Int32) (μ : Mm) (cz : Nat) : Prop := cz + 6 ≤ 160 ∧ wp_L_numbers kd v0 ((-1001 : Int32) - v1) (0 : Int32) μ (fun r14 μ17 => (¬ r14 = (-2000000002 : Int32) → (wb_L_refuses_357 kd post v0 v1 v2 μ17 (cz + 6))) ∧ (r14 = (-2000000002 : Int32) → (cz + 12 ≤ 160 ∧ wp_L_numbers kd v0 ((1001 : Int32) + v1) ((2000 : Int32) + v1) μ17 (fun r20 μ23 => (¬ r20 = (-2000000002 : Int32) → (wb_L_refuses_357 kd post v0 v1 v2 μ23 (cz + 12))) ∧ (r20 = (-2000000002 : Int32) → (cz + 18 ≤ 160 ∧ wp_L_numbers kd v0 (5 : Int32) (4 : Int32) μ23 (fun r26 μ29 => (¬ r26 = (-2000000002 : Int32) → (wb_L_refuses_357 kd post v0 v1 v2 μ29 (cz + 18))) ∧ (r26 = (-2000000002 : Int32) → (cz + 24 ≤ 160 ∧ wp_L_numbers kd v0 (5 : Int32) ((1001 : Int32) + v1) μ29 (fun r32 μ35 => (¬ r32 = (-2000000002 : Int32) → (wb_L_refuses_357 kd post v0 v1 v2 μ35 (cz + 24))) ∧ (r32 = (-2000000002 : Int32) → (cz + 31 ≤ 160 ∧ wp_L_lists kd v0 v2 (9 : Int32) (9 : Int32) μ35 (fun r38 μ41 => (¬ r38 = (-2000000001 : Int32) → (wb_L_refuses_357 kd post v0 v1 v2 μ41 (cz + 31))) ∧ (r38 = (-2000000001 : Int32) → (cz + 33 ≤ 160 ∧ wp_L_parts v0 v2 (1 : Int32) μ41 (fun r44 μ47 => (¬ r44 = (-2000000001 : Int32) → (wb_L_refuses_357 kd post v0 v1 v2 μ47 (cz + 33))) ∧ (r44 = (-2000000001 : Int32) → (cz + 36 ≤ 160 ∧ wp_L_extend kd v0 v2 v2 μ47 (fun r50 μ53 => (¬ r50 = (-2000000001 : Int32) → (wb_L_refuses_357 kd post v0 v1 v2 μ53 (cz + 36))) ∧ (r50 = (-2000000001 : Int32) → (cz + 37 ≤ 160 ∧ wp_L_least v0 v2 μ53 (fun r56 μ59 => (¬ r56 = (-2000000001 : Int32) → (wb_L_refuses_357 kd post v0 v1 v2 μ59 (cz + 37))) ∧ (r56 = (-2000000001 : Int32) → (cz + 38 ≤ 160 ∧ wp_L_most v0 v2 μ59 (fun r62 μ65 => (¬ r62 = (-2000000001 : Int32) → (wb_L_refuses_357 kd post v0 v1 v2 μ65 (cz + 38))) ∧ (r62 = (-2000000001 : Int32) → (cz + 39 ≤ 160 ∧ wp_L_tells v0 ((1001 : Int32) + v1) μ65 (fun r68 μ71 => (¬ r68 = (-2000000002 : Int32) → (wb_L_refuses_357 kd post v0 v1 v2 μ71 (cz + 39))) ∧ (r68 = (-2000000002 : Int32) → (cz + 40 ≤ 160 ∧ wp_L_tells v0 ((-1001 : Int32) - v1) μ71 (fun r74 μ77 => (¬ r74 = (-2000000002 : Int32) → (wb_L_refuses_357 kd post v0 v1 v2 μ77 (cz + 40))) ∧ (r74 = (-2000000002 : Int32) → (cz + 41 ≤ 160 ∧ wp_L_told v0 ((-1 : Int32) - v1) μ77 (fun r80 μ83 => (¬ r80 = (-2000000001 : Int32) → (wb_L_refuses_357 kd post v0 v1 v2 μ83 (cz + 41))) ∧ (r80 = (-2000000001 : Int32) → (cz + 41 ≤ 160 ∧ (∃ f88, μ83 v0 = some (.inl (5, f88))) ∧ wp_X6_length v0 μ83 (fun r86 μ89 => cz + 42 ≤ 160 ∧ wp_L_told v0 (r86 + v1) μ89 (fun r91 μ94 => (¬ r91 = (-2000000001 : Int32) → (wb_L_refuses_357 kd post v0 v1 v2 μ94 (cz + 42))) ∧ (r91 = (-2000000001 : Int32) → (cz + 43 ≤ 160 ∧ wp_L_wrong kd v0 v2 μ94 (fun r97 μ100 => (¬ r97 = (-2000000001 : Int32) → (wb_L_refuses_357 kd post v0 v1 v2 μ100 (cz + 43))) ∧ (r97 = (-2000000001 : Int32) → (cz + 45 ≤ 160 ∧ wp_L_writes kd v0 v2 μ100 (fun r103 μ106 => (¬ r103 = (-2000000001 : Int32) → (wb_L_refuses_357 kd post v0 v1 v2 μ106 (cz + 45))) ∧ (r103 = (-2000000001 : Int32) → (cz + 46 ≤ 160 ∧ wp_L_bit v0 s0 μ106 (fun r109 μ112 => (¬ r109 = (-2000000001 : Int32) → (wb_L_refuses_357 kd post v0 v1 v2 μ112 (cz + 46))) ∧ (r109 = (-2000000001 : Int32) → (cz + 47 ≤ 160 ∧ wp_L_flips v0 s0 μ112 (fun r115 μ118 => (¬ r115 = (-2000000001 : Int32) → (wb_L_refuses_357 kd post v0 v1 v2 μ118 (cz + 47))) ∧ (r115 = (-2000000001 : Int32) → (cz + 48 ≤ 160 ∧ wp_L_cuts v0 ((-1 : Int32) - v1) μ118 (fun r121 μ124 => (¬ r121 = (-2000000002 : Int32) → (wb_L_refuses_357 kd post v0 v1 v2 μ124 (cz + 48))) ∧ (r121 = (-2000000002 : Int32) → (cz + 48 ≤ 160 ∧ (∃ f129, μ124 v0 = some (.inl (5, f129))) ∧ wp_X6_bits v0 μ124 (fun r127 μ130 => cz + 49 ≤ 160 ∧ wp_L_cuts v0 ((r127 + (1 : Int32)) + v1) μ130 (fun r132 μ135 => (¬ r132 = (-2000000002 : Int32) → (wb_L_refuses_357 kd post v0 v1 v2 μ135 (cz + 49))) ∧ (r132 = (-2000000002 : Int32) → (cz + 52 ≤ 160 ∧ wp_L_reads kd v0 v2 (9 : Int32) μ135 (fun r138 μ141 => (¬ r138 = (-2000000001 : Int32) → (wb_L_refuses_357 kd post v0 v1 v2 μ141 (cz + 52))) ∧ (r138 = (-2000000001 : Int32) → (cz + 54 ≤ 160 ∧ wp_L_fault kd v0 v2 (-1 : Int32) μ141 (fun r144 μ147 => (¬ r144 = (-2000000001 : Int32) → (wb_L_refuses_357 kd post v0 v1 v2 μ147 (cz + 54))) ∧ (r144 = (-2000000001 : Int32) → (cz + 54 ≤ 160 ∧ (∃ f152, μ147 v0 = some (.inl (5, f152))) ∧ wp_X6_types v0 μ147 (fun r150 μ153 => (r150 < (16 : Int32) → (wb_L_refuses_333 kd post v0 v1 v2 μ153 (cz + 54))) ∧ (¬ r150 < (16 : Int32) → (cz + 60 ≤ 160 ∧ wp_L_numbers kd v0 (0 : Int32) (1 : Int32) μ153 (fun r156 μ159 => (¬ r156 = (-2000000003 : Int32) → (wb_L_refuses_357 kd post v0 v1 v2 μ159 (cz + 60))) ∧ (r156 = (-2000000003 : Int32) → (wb_L_refuses_333 kd post v0 v1 v2 μ159 (cz + 60))))))))))))))))))))))))))))))))))))))))))))))))))))))))))))))))))))))))
set_option maxHeartbeats 4000000 in
set_option maxRecDepth 100000 in
theorem tb_L_refuses_49 {p : Program} {l : Launch} {e : Env} {s : State} {m : MethodId} {args : Array Value} {below : List Frame} {meth : Method} {c : Code} {G : gG} {A : Nat → Prop} {kd : Nat → Nat} {post : Int32 → Mm → Prop} (X : Cx p l s m args meth c cL_refuses 6 (some .boolean) RL G A) (hl0 : l.stackTraces = false) (hkd : G.2.2 = kd) : ∀ (v0 : Nat) (v1 : Int32) (v2 : Int32) (s0 : Int32) (μ : Mm) (cz : Nat), wb_L_refuses_49 kd post v0 v1 v2 s0 μ cz → J p l e (rmL (79) 160 1280) s m args below meth c 6 G A (MQ below (QG G A (pI post)) args s 160 1280 A) cz (8 * cz) 49 [(0, .ref v0), (1, .int v1), (2, .int v2)] [.int s0] μ := by
  intro v0 v1 v2 s0 μ cz hw
  unfold wb_L_refuses_49 at hw
  refine j_istore_n X (pc' := 50) (kk := 3) (i := 3) (loc' := [(3, .int s0), (0, .ref v0), (1, .int v1), (2, .int v2)]) dL_refuses_49 rfl rfl (by decide) rfl ?_
  refine j_aload_n X (pc' := 51) (kk := 0) (i := 0) 1 rfl rfl dL_refuses_50 rfl ?_
  refine j_sipush X (pc' := 54) (v := (-1001)) (by decide) dL_refuses_51 rfl ?_
  refine j_iload_n X (pc' := 55) (kk := 1) (i := 1) 2 rfl rfl dL_refuses_54 rfl ?_
  refine j_isub X (pc' := 56) dL_refuses_55 rfl ?_
  refine j_iconst X (pc' := 57) (v := 0) (by decide) dL_refuses_56 rfl ?_
  obtain ⟨hz13, hw1⟩ := hw
  refine j_callSWi X (pc' := 60) (cells' := cz + 6) (slots' := 8 * (cz) + 23) (As := [.ref v0, .int ((-1001 : Int32) - v1), .int ((0 : Int32))]) (rest := []) (c_L_numbers l G A hl0 kd hkd v0 ((-1001 : Int32) - v1) (0 : Int32) μ _ hw1) (gk_L_numbers wt_1_144) hd_L_numbers (rmL_fit (k1 := 5) (k := 79) (by omega) (by decide)) rfl rfl (Nat.le_of_ble_eq_true rfl) dL_refuses_57 rfl ⟨by show _ ≤ 160; omega, by show _ ≤ 1280; omega⟩ rfl rfl (fun r14 μ17 hw2 => ?_)
  refine j_widen (k1 := cz + 6) (n1 := 8 * (cz + 6)) (by omega) (by omega) ?_
  refine j_ldc X (pc' := 62) (v := (-2000000002 : Int32)) wt_2_111 dL_refuses_60 rfl ?_
  refine j_icmp_ne X (pc' := 65) (tgt := 357) dL_refuses_62 rfl (by decide) (fun c18 => ?_) (fun c18 => ?_)
  · have hw3 := hw2.1 c18
    refine j_loc [1, 2, 3] rfl ?_
    exact tb_L_refuses_357 X hl0 hkd _ _ _ _ _ hw3
  · have hw4 := hw2.2 c18
    refine j_aload_n X (pc' := 66) (kk := 0) (i := 0) 1 rfl rfl dL_refuses_65 rfl ?_
    refine j_sipush X (pc' := 69) (v := 1001) (by decide) dL_refuses_66 rfl ?_
    refine j_iload_n X (pc' := 70) (kk := 1) (i := 1) 2 rfl rfl dL_refuses_69 rfl ?_
    refine j_iadd X (pc' := 71) dL_refuses_70 rfl ?_
    refine j_sipush X (pc' := 74) (v := 2000) (by decide) dL_refuses_71 rfl ?_
    refine j_iload_n X (pc' := 75) (kk := 1) (i := 1) 2 rfl rfl dL_refuses_74 rfl ?_
    refine j_iadd X (pc' := 76) dL_refuses_75 rfl ?_
    obtain ⟨hz19, hw5⟩ := hw4
    refine j_callSWi X (pc' := 79) (cells' := cz + 6 + 6) (slots' := 8 * (cz + 6) + 23) (As := [.ref v0, .int ((1001 : Int32) + v1), .int ((2000 : Int32) + v1)]) (rest := []) (c_L_numbers l G A hl0 kd hkd v0 ((1001 : Int32) + v1) ((2000 : Int32) + v1) μ17 _ hw5) (gk_L_numbers wt_1_144) hd_L_numbers (rmL_fit (k1 := 5) (k := 79) (by omega) (by decide)) rfl rfl (Nat.le_of_ble_eq_true rfl) dL_refuses_76 rfl ⟨by show _ ≤ 160; omega, by show _ ≤ 1280; omega⟩ rfl rfl (fun r20 μ23 hw6 => ?_)
    refine j_widen (k1 := cz + 12) (n1 := 8 * (cz + 12)) (by omega) (by omega) ?_
    refine j_ldc X (pc' := 81) (v := (-2000000002 : Int32)) wt_2_111 dL_refuses_79 rfl ?_
    refine j_icmp_ne X (pc' := 84) (tgt := 357) dL_refuses_81 rfl (by decide) (fun c24 => ?_) (fun c24 => ?_)
    · have hw7 := hw6.1 c24
      refine j_loc [1, 2, 3] rfl ?_
      exact tb_L_refuses_357 X hl0 hkd _ _ _ _ _ hw7
    · have hw8 := hw6.2 c24
      refine j_aload_n X (pc' := 85) (kk := 0) (i := 0) 1 rfl rfl dL_refuses_84 rfl ?_
      refine j_iconst X (pc' := 86) (v := 5) (by decide) dL_refuses_85 rfl ?_
      refine j_iconst X (pc' := 87) (v := 4) (by decide) dL_refuses_86 rfl ?_
      obtain ⟨hz25, hw9⟩ := hw8
      refine j_callSWi X (pc' := 90) (cells' := cz + 12 + 6) (slots' := 8 * (cz + 12) + 23) (As := [.ref v0, .int ((5 : Int32)), .int ((4 : Int32))]) (rest := []) (c_L_numbers l G A hl0 kd hkd v0 (5 : Int32) (4 : Int32) μ23 _ hw9) (gk_L_numbers wt_1_144) hd_L_numbers (rmL_fit (k1 := 5) (k := 79) (by omega) (by decide)) rfl rfl (Nat.le_of_ble_eq_true rfl) dL_refuses_87 rfl ⟨by show _ ≤ 160; omega, by show _ ≤ 1280; omega⟩ rfl rfl (fun r26 μ29 hw10 => ?_)
      refine j_widen (k1 := cz + 18) (n1 := 8 * (cz + 18)) (by omega) (by omega) ?_
      refine j_ldc X (pc' := 92) (v := (-2000000002 : Int32)) wt_2_111 dL_refuses_90 rfl ?_
      refine j_icmp_ne X (pc' := 95) (tgt := 357) dL_refuses_92 rfl (by decide) (fun c30 => ?_) (fun c30 => ?_)
      · have hw11 := hw10.1 c30
        refine j_loc [1, 2, 3] rfl ?_
        exact tb_L_refuses_357 X hl0 hkd _ _ _ _ _ hw11
      · have hw12 := hw10.2 c30
        refine j_aload_n X (pc' := 96) (kk := 0) (i := 0) 1 rfl rfl dL_refuses_95 rfl ?_
        refine j_iconst X (pc' := 97) (v := 5) (by decide) dL_refuses_96 rfl ?_
        refine j_sipush X (pc' := 100) (v := 1001) (by decide) dL_refuses_97 rfl ?_
        refine j_iload_n X (pc' := 101) (kk := 1) (i := 1) 2 rfl rfl dL_refuses_100 rfl ?_
        refine j_iadd X (pc' := 102) dL_refuses_101 rfl ?_
        obtain ⟨hz31, hw13⟩ := hw12
        refine j_callSWi X (pc' := 105) (cells' := cz + 18 + 6) (slots' := 8 * (cz + 18) + 23) (As := [.ref v0, .int ((5 : Int32)), .int ((1001 : Int32) + v1)]) (rest := []) (c_L_numbers l G A hl0 kd hkd v0 (5 : Int32) ((1001 : Int32) + v1) μ29 _ hw13) (gk_L_numbers wt_1_144) hd_L_numbers (rmL_fit (k1 := 5) (k := 79) (by omega) (by decide)) rfl rfl (Nat.le_of_ble_eq_true rfl) dL_refuses_102 rfl ⟨by show _ ≤ 160; omega, by show _ ≤ 1280; omega⟩ rfl rfl (fun r32 μ35 hw14 => ?_)
        refine j_widen (k1 := cz + 24) (n1 := 8 * (cz + 24)) (by omega) (by omega) ?_
        refine j_ldc X (pc' := 107) (v := (-2000000002 : Int32)) wt_2_111 dL_refuses_105 rfl ?_
        refine j_icmp_ne X (pc' := 110) (tgt := 357) dL_refuses_107 rfl (by decide) (fun c36 => ?_) (fun c36 => ?_)
        · have hw15 := hw14.1 c36
          refine j_loc [1, 2, 3] rfl ?_
          exact tb_L_refuses_357 X hl0 hkd _ _ _ _ _ hw15
        · have hw16 := hw14.2 c36
          refine j_aload_n X (pc' := 111) (kk := 0) (i := 0) 1 rfl rfl dL_refuses_110 rfl ?_
          refine j_iload_n X (pc' := 112) (kk := 2) (i := 2) 3 rfl rfl dL_refuses_111 rfl ?_
          refine j_bipush X (pc' := 114) (v := 9) (by decide) dL_refuses_112 rfl ?_
          refine j_bipush X (pc' := 116) (v := 9) (by decide) dL_refuses_114 rfl ?_
          obtain ⟨hz37, hw17⟩ := hw16
          refine j_callSWi X (pc' := 119) (cells' := cz + 24 + 7) (slots' := 8 * (cz + 24) + 30) (As := [.ref v0, .int v2, .int ((9 : Int32)), .int ((9 : Int32))]) (rest := []) (c_L_lists l G A hl0 kd hkd v0 v2 (9 : Int32) (9 : Int32) μ35 _ hw17) (gk_L_lists wt_2_113) hd_L_lists (rmL_fit (k1 := 5) (k := 79) (by omega) (by decide)) rfl rfl (Nat.le_of_ble_eq_true rfl) dL_refuses_116 rfl ⟨by show _ ≤ 160; omega, by show _ ≤ 1280; omega⟩ rfl rfl (fun r38 μ41 hw18 => ?_)
          refine j_widen (k1 := cz + 31) (n1 := 8 * (cz + 31)) (by omega) (by omega) ?_
          refine j_ldc X (pc' := 121) (v := (-2000000001 : Int32)) wt_2_144 dL_refuses_119 rfl ?_
          refine j_icmp_ne X (pc' := 124) (tgt := 357) dL_refuses_121 rfl (by decide) (fun c42 => ?_) (fun c42 => ?_)
          · have hw19 := hw18.1 c42
            refine j_loc [1, 2, 3] rfl ?_
            exact tb_L_refuses_357 X hl0 hkd _ _ _ _ _ hw19
          · have hw20 := hw18.2 c42
            refine j_aload_n X (pc' := 125) (kk := 0) (i := 0) 1 rfl rfl dL_refuses_124 rfl ?_
            refine j_iload_n X (pc' := 126) (kk := 2) (i := 2) 3 rfl rfl dL_refuses_125 rfl ?_
            refine j_iconst X (pc' := 127) (v := 1) (by decide) dL_refuses_126 rfl ?_
            obtain ⟨hz43, hw21⟩ := hw20
            refine j_callSWi X (pc' := 130) (cells' := cz + 31 + 2) (slots' := 8 * (cz + 31) + 12) (As := [.ref v0, .int v2, .int ((1 : Int32))]) (rest := []) (c_L_parts l G A hl0 v0 v2 (1 : Int32) μ41 _ hw21) (gk_L_parts wt_2_145) hd_L_parts (rmL_fit (k1 := 3) (k := 79) (by omega) (by decide)) rfl rfl (Nat.le_of_ble_eq_true rfl) dL_refuses_127 rfl ⟨by show _ ≤ 160; omega, by show _ ≤ 1280; omega⟩ rfl rfl (fun r44 μ47 hw22 => ?_)
            refine j_widen (k1 := cz + 33) (n1 := 8 * (cz + 33)) (by omega) (by omega) ?_
            refine j_ldc X (pc' := 132) (v := (-2000000001 : Int32)) wt_2_144 dL_refuses_130 rfl ?_
            refine j_icmp_ne X (pc' := 135) (tgt := 357) dL_refuses_132 rfl (by decide) (fun c48 => ?_) (fun c48 => ?_)
            · have hw23 := hw22.1 c48
              refine j_loc [1, 2, 3] rfl ?_
              exact tb_L_refuses_357 X hl0 hkd _ _ _ _ _ hw23
            · have hw24 := hw22.2 c48
              refine j_aload_n X (pc' := 136) (kk := 0) (i := 0) 1 rfl rfl dL_refuses_135 rfl ?_
              refine j_iload_n X (pc' := 137) (kk := 2) (i := 2) 3 rfl rfl dL_refuses_136 rfl ?_
              refine j_iload_n X (pc' := 138) (kk := 2) (i := 2) 3 rfl rfl dL_refuses_137 rfl ?_
              obtain ⟨hz49, hw25⟩ := hw24
              refine j_callSWi X (pc' := 141) (cells' := cz + 33 + 3) (slots' := 8 * (cz + 33) + 18) (As := [.ref v0, .int v2, .int v2]) (rest := []) (c_L_extend l G A hl0 kd hkd v0 v2 v2 μ47 _ hw25) (gk_L_extend wt_2_153) hd_L_extend (rmL_fit (k1 := 5) (k := 79) (by omega) (by decide)) rfl rfl (Nat.le_of_ble_eq_true rfl) dL_refuses_138 rfl ⟨by show _ ≤ 160; omega, by show _ ≤ 1280; omega⟩ rfl rfl (fun r50 μ53 hw26 => ?_)
              refine j_widen (k1 := cz + 36) (n1 := 8 * (cz + 36)) (by omega) (by omega) ?_
              refine j_ldc X (pc' := 143) (v := (-2000000001 : Int32)) wt_2_144 dL_refuses_141 rfl ?_
              refine j_icmp_ne X (pc' := 146) (tgt := 357) dL_refuses_143 rfl (by decide) (fun c54 => ?_) (fun c54 => ?_)
              · have hw27 := hw26.1 c54
                refine j_loc [1, 2, 3] rfl ?_
                exact tb_L_refuses_357 X hl0 hkd _ _ _ _ _ hw27
              · have hw28 := hw26.2 c54
                refine j_aload_n X (pc' := 147) (kk := 0) (i := 0) 1 rfl rfl dL_refuses_146 rfl ?_
                refine j_iload_n X (pc' := 148) (kk := 2) (i := 2) 3 rfl rfl dL_refuses_147 rfl ?_
                obtain ⟨hz55, hw29⟩ := hw28
                refine j_callSWi X (pc' := 151) (cells' := cz + 36 + 1) (slots' := 8 * (cz + 36) + 6) (As := [.ref v0, .int v2]) (rest := []) (c_L_least l G A hl0 v0 v2 μ53 _ hw29) (gk_L_least wt_2_174) hd_L_least (rmL_fit (k1 := 3) (k := 79) (by omega) (by decide)) rfl rfl (Nat.le_of_ble_eq_true rfl) dL_refuses_148 rfl ⟨by show _ ≤ 160; omega, by show _ ≤ 1280; omega⟩ rfl rfl (fun r56 μ59 hw30 => ?_)
                refine j_widen (k1 := cz + 37) (n1 := 8 * (cz + 37)) (by omega) (by omega) ?_
                refine j_ldc X (pc' := 153) (v := (-2000000001 : Int32)) wt_2_144 dL_refuses_151 rfl ?_
                refine j_icmp_ne X (pc' := 156) (tgt := 357) dL_refuses_153 rfl (by decide) (fun c60 => ?_) (fun c60 => ?_)
                · have hw31 := hw30.1 c60
                  refine j_loc [1, 2, 3] rfl ?_
                  exact tb_L_refuses_357 X hl0 hkd _ _ _ _ _ hw31
                · have hw32 := hw30.2 c60
                  refine j_aload_n X (pc' := 157) (kk := 0) (i := 0) 1 rfl rfl dL_refuses_156 rfl ?_
                  refine j_iload_n X (pc' := 158) (kk := 2) (i := 2) 3 rfl rfl dL_refuses_157 rfl ?_
                  obtain ⟨hz61, hw33⟩ := hw32
                  refine j_callSWi X (pc' := 161) (cells' := cz + 37 + 1) (slots' := 8 * (cz + 37) + 6) (As := [.ref v0, .int v2]) (rest := []) (c_L_most l G A hl0 v0 v2 μ59 _ hw33) (gk_L_most wt_2_181) hd_L_most (rmL_fit (k1 := 3) (k := 79) (by omega) (by decide)) rfl rfl (Nat.le_of_ble_eq_true rfl) dL_refuses_158 rfl ⟨by show _ ≤ 160; omega, by show _ ≤ 1280; omega⟩ rfl rfl (fun r62 μ65 hw34 => ?_)
                  refine j_widen (k1 := cz + 38) (n1 := 8 * (cz + 38)) (by omega) (by omega) ?_
                  refine j_ldc X (pc' := 163) (v := (-2000000001 : Int32)) wt_2_144 dL_refuses_161 rfl ?_
                  refine j_icmp_ne X (pc' := 166) (tgt := 357) dL_refuses_163 rfl (by decide) (fun c66 => ?_) (fun c66 => ?_)
                  · have hw35 := hw34.1 c66
                    refine j_loc [1, 2, 3] rfl ?_
                    exact tb_L_refuses_357 X hl0 hkd _ _ _ _ _ hw35
                  · have hw36 := hw34.2 c66
                    refine j_aload_n X (pc' := 167) (kk := 0) (i := 0) 1 rfl rfl dL_refuses_166 rfl ?_
                    refine j_sipush X (pc' := 170) (v := 1001) (by decide) dL_refuses_167 rfl ?_
                    refine j_iload_n X (pc' := 171) (kk := 1) (i := 1) 2 rfl rfl dL_refuses_170 rfl ?_
                    refine j_iadd X (pc' := 172) dL_refuses_171 rfl ?_
                    obtain ⟨hz67, hw37⟩ := hw36
                    refine j_callSWi X (pc' := 175) (cells' := cz + 38 + 1) (slots' := 8 * (cz + 38) + 6) (As := [.ref v0, .int ((1001 : Int32) + v1)]) (rest := []) (c_L_tells l G A hl0 v0 ((1001 : Int32) + v1) μ65 _ hw37) (gk_L_tells wt_2_188) hd_L_tells (rmL_fit (k1 := 2) (k := 79) (by omega) (by decide)) rfl rfl (Nat.le_of_ble_eq_true rfl) dL_refuses_172 rfl ⟨by show _ ≤ 160; omega, by show _ ≤ 1280; omega⟩ rfl rfl (fun r68 μ71 hw38 => ?_)
                    refine j_widen (k1 := cz + 39) (n1 := 8 * (cz + 39)) (by omega) (by omega) ?_
                    refine j_ldc X (pc' := 177) (v := (-2000000002 : Int32)) wt_2_111 dL_refuses_175 rfl ?_
                    refine j_icmp_ne X (pc' := 180) (tgt := 357) dL_refuses_177 rfl (by decide) (fun c72 => ?_) (fun c72 => ?_)
                    · have hw39 := hw38.1 c72
                      refine j_loc [1, 2, 3] rfl ?_
                      exact tb_L_refuses_357 X hl0 hkd _ _ _ _ _ hw39
                    · have hw40 := hw38.2 c72
                      refine j_aload_n X (pc' := 181) (kk := 0) (i := 0) 1 rfl rfl dL_refuses_180 rfl ?_
                      refine j_sipush X (pc' := 184) (v := (-1001)) (by decide) dL_refuses_181 rfl ?_
                      refine j_iload_n X (pc' := 185) (kk := 1) (i := 1) 2 rfl rfl dL_refuses_184 rfl ?_
                      refine j_isub X (pc' := 186) dL_refuses_185 rfl ?_
                      obtain ⟨hz73, hw41⟩ := hw40
                      refine j_callSWi X (pc' := 189) (cells' := cz + 39 + 1) (slots' := 8 * (cz + 39) + 6) (As := [.ref v0, .int ((-1001 : Int32) - v1)]) (rest := []) (c_L_tells l G A hl0 v0 ((-1001 : Int32) - v1) μ71 _ hw41) (gk_L_tells wt_2_188) hd_L_tells (rmL_fit (k1 := 2) (k := 79) (by omega) (by decide)) rfl rfl (Nat.le_of_ble_eq_true rfl) dL_refuses_186 rfl ⟨by show _ ≤ 160; omega, by show _ ≤ 1280; omega⟩ rfl rfl (fun r74 μ77 hw42 => ?_)
                      refine j_widen (k1 := cz + 40) (n1 := 8 * (cz + 40)) (by omega) (by omega) ?_
                      refine j_ldc X (pc' := 191) (v := (-2000000002 : Int32)) wt_2_111 dL_refuses_189 rfl ?_
                      refine j_icmp_ne X (pc' := 194) (tgt := 357) dL_refuses_191 rfl (by decide) (fun c78 => ?_) (fun c78 => ?_)
                      · have hw43 := hw42.1 c78
                        refine j_loc [1, 2, 3] rfl ?_
                        exact tb_L_refuses_357 X hl0 hkd _ _ _ _ _ hw43
                      · have hw44 := hw42.2 c78
                        refine j_aload_n X (pc' := 195) (kk := 0) (i := 0) 1 rfl rfl dL_refuses_194 rfl ?_
                        refine j_iconst X (pc' := 196) (v := (-1)) (by decide) dL_refuses_195 rfl ?_
                        refine j_iload_n X (pc' := 197) (kk := 1) (i := 1) 2 rfl rfl dL_refuses_196 rfl ?_
                        refine j_isub X (pc' := 198) dL_refuses_197 rfl ?_
                        obtain ⟨hz79, hw45⟩ := hw44
                        refine j_callSWi X (pc' := 201) (cells' := cz + 40 + 1) (slots' := 8 * (cz + 40) + 6) (As := [.ref v0, .int ((-1 : Int32) - v1)]) (rest := []) (c_L_told l G A hl0 v0 ((-1 : Int32) - v1) μ77 _ hw45) (gk_L_told wt_2_205) hd_L_told (rmL_fit (k1 := 2) (k := 79) (by omega) (by decide)) rfl rfl (Nat.le_of_ble_eq_true rfl) dL_refuses_198 rfl ⟨by show _ ≤ 160; omega, by show _ ≤ 1280; omega⟩ rfl rfl (fun r80 μ83 hw46 => ?_)
                        refine j_widen (k1 := cz + 41) (n1 := 8 * (cz + 41)) (by omega) (by omega) ?_
                        refine j_ldc X (pc' := 203) (v := (-2000000001 : Int32)) wt_2_144 dL_refuses_201 rfl ?_
                        refine j_icmp_ne X (pc' := 206) (tgt := 357) dL_refuses_203 rfl (by decide) (fun c84 => ?_) (fun c84 => ?_)
                        · have hw47 := hw46.1 c84
                          refine j_loc [1, 2, 3] rfl ?_
                          exact tb_L_refuses_357 X hl0 hkd _ _ _ _ _ hw47
                        · have hw48 := hw46.2 c84
                          refine j_aload_n X (pc' := 207) (kk := 0) (i := 0) 1 rfl rfl dL_refuses_206 rfl ?_
                          refine j_aload_n X (pc' := 208) (kk := 0) (i := 0) 1 rfl rfl dL_refuses_207 rfl ?_
                          obtain ⟨hz85, hw49⟩ := hw48
                          obtain ⟨⟨f88, hm87⟩, hw50⟩ := hw49
                          refine j_callVi X (pc' := 211) (cells' := cz + 41 + 0) (slots' := 8 * (cz + 41) + 0) (As := []) (rest := [.ref v0]) (c_X6_length l G A v0 μ83 _ hw50) (gk_X6_length wt_2_221) hd_X6_length (rmL_fit (k1 := 1) (k := 79) (by omega) (by decide)) hm87 rfl rfl rfl (Nat.le_of_ble_eq_true rfl) dL_refuses_208 rfl ⟨by show _ ≤ 160; omega, by show _ ≤ 1280; omega⟩ rfl rfl (fun r86 μ89 hw51 => ?_)
                          refine j_widen (k1 := cz + 41) (n1 := 8 * (cz + 41)) (by omega) (by omega) ?_
                          refine j_iload_n X (pc' := 212) (kk := 1) (i := 1) 2 rfl rfl dL_refuses_211 rfl ?_
                          refine j_iadd X (pc' := 213) dL_refuses_212 rfl ?_
                          obtain ⟨hz90, hw52⟩ := hw51
                          refine j_callSWi X (pc' := 216) (cells' := cz + 41 + 1) (slots' := 8 * (cz + 41) + 6) (As := [.ref v0, .int (r86 + v1)]) (rest := []) (c_L_told l G A hl0 v0 (r86 + v1) μ89 _ hw52) (gk_L_told wt_2_205) hd_L_told (rmL_fit (k1 := 2) (k := 79) (by omega) (by decide)) rfl rfl (Nat.le_of_ble_eq_true rfl) dL_refuses_213 rfl ⟨by show _ ≤ 160; omega, by show _ ≤ 1280; omega⟩ rfl rfl (fun r91 μ94 hw53 => ?_)
                          refine j_widen (k1 := cz + 42) (n1 := 8 * (cz + 42)) (by omega) (by omega) ?_
                          refine j_ldc X (pc' := 218) (v := (-2000000001 : Int32)) wt_2_144 dL_refuses_216 rfl ?_
                          refine j_icmp_ne X (pc' := 221) (tgt := 357) dL_refuses_218 rfl (by decide) (fun c95 => ?_) (fun c95 => ?_)
                          · have hw54 := hw53.1 c95
                            refine j_loc [1, 2, 3] rfl ?_
                            exact tb_L_refuses_357 X hl0 hkd _ _ _ _ _ hw54
                          · have hw55 := hw53.2 c95
                            refine j_aload_n X (pc' := 222) (kk := 0) (i := 0) 1 rfl rfl dL_refuses_221 rfl ?_
                            refine j_iload_n X (pc' := 223) (kk := 2) (i := 2) 3 rfl rfl dL_refuses_222 rfl ?_
                            obtain ⟨hz96, hw56⟩ := hw55
                            refine j_callSWi X (pc' := 226) (cells' := cz + 42 + 1) (slots' := 8 * (cz + 42) + 6) (As := [.ref v0, .int v2]) (rest := []) (c_L_wrong l G A hl0 kd hkd v0 v2 μ94 _ hw56) (gk_L_wrong wt_2_225) hd_L_wrong (rmL_fit (k1 := 77) (k := 79) (by omega) (by decide)) rfl rfl (Nat.le_of_ble_eq_true rfl) dL_refuses_223 rfl ⟨by show _ ≤ 160; omega, by show _ ≤ 1280; omega⟩ rfl rfl (fun r97 μ100 hw57 => ?_)
                            refine j_widen (k1 := cz + 43) (n1 := 8 * (cz + 43)) (by omega) (by omega) ?_
                            refine j_ldc X (pc' := 228) (v := (-2000000001 : Int32)) wt_2_144 dL_refuses_226 rfl ?_
                            refine j_icmp_ne X (pc' := 231) (tgt := 357) dL_refuses_228 rfl (by decide) (fun c101 => ?_) (fun c101 => ?_)
                            · have hw58 := hw57.1 c101
                              refine j_loc [1, 2, 3] rfl ?_
                              exact tb_L_refuses_357 X hl0 hkd _ _ _ _ _ hw58
                            · have hw59 := hw57.2 c101
                              refine j_aload_n X (pc' := 232) (kk := 0) (i := 0) 1 rfl rfl dL_refuses_231 rfl ?_
                              refine j_iload_n X (pc' := 233) (kk := 2) (i := 2) 3 rfl rfl dL_refuses_232 rfl ?_
                              obtain ⟨hz102, hw60⟩ := hw59
                              refine j_callSWi X (pc' := 236) (cells' := cz + 43 + 2) (slots' := 8 * (cz + 43) + 12) (As := [.ref v0, .int v2]) (rest := []) (c_L_writes l G A hl0 kd hkd v0 v2 μ100 _ hw60) (gk_L_writes wt_3_40) hd_L_writes (rmL_fit (k1 := 77) (k := 79) (by omega) (by decide)) rfl rfl (Nat.le_of_ble_eq_true rfl) dL_refuses_233 rfl ⟨by show _ ≤ 160; omega, by show _ ≤ 1280; omega⟩ rfl rfl (fun r103 μ106 hw61 => ?_)
                              refine j_widen (k1 := cz + 45) (n1 := 8 * (cz + 45)) (by omega) (by omega) ?_
                              refine j_ldc X (pc' := 238) (v := (-2000000001 : Int32)) wt_2_144 dL_refuses_236 rfl ?_
                              refine j_icmp_ne X (pc' := 241) (tgt := 357) dL_refuses_238 rfl (by decide) (fun c107 => ?_) (fun c107 => ?_)
                              · have hw62 := hw61.1 c107
                                refine j_loc [1, 2, 3] rfl ?_
                                exact tb_L_refuses_357 X hl0 hkd _ _ _ _ _ hw62
                              · have hw63 := hw61.2 c107
                                refine j_aload_n X (pc' := 242) (kk := 0) (i := 0) 1 rfl rfl dL_refuses_241 rfl ?_
                                refine j_iload_n X (pc' := 243) (kk := 3) (i := 3) 0 rfl rfl dL_refuses_242 rfl ?_
                                obtain ⟨hz108, hw64⟩ := hw63
                                refine j_callSWi X (pc' := 246) (cells' := cz + 45 + 1) (slots' := 8 * (cz + 45) + 6) (As := [.ref v0, .int s0]) (rest := []) (c_L_bit l G A hl0 v0 s0 μ106 _ hw64) (gk_L_bit wt_3_56) hd_L_bit (rmL_fit (k1 := 2) (k := 79) (by omega) (by decide)) rfl rfl (Nat.le_of_ble_eq_true rfl) dL_refuses_243 rfl ⟨by show _ ≤ 160; omega, by show _ ≤ 1280; omega⟩ rfl rfl (fun r109 μ112 hw65 => ?_)
                                refine j_widen (k1 := cz + 46) (n1 := 8 * (cz + 46)) (by omega) (by omega) ?_
                                refine j_ldc X (pc' := 248) (v := (-2000000001 : Int32)) wt_2_144 dL_refuses_246 rfl ?_
                                refine j_icmp_ne X (pc' := 251) (tgt := 357) dL_refuses_248 rfl (by decide) (fun c113 => ?_) (fun c113 => ?_)
                                · have hw66 := hw65.1 c113
                                  refine j_loc [1, 2, 3] rfl ?_
                                  exact tb_L_refuses_357 X hl0 hkd _ _ _ _ _ hw66
                                · have hw67 := hw65.2 c113
                                  refine j_aload_n X (pc' := 252) (kk := 0) (i := 0) 1 rfl rfl dL_refuses_251 rfl ?_
                                  refine j_iload_n X (pc' := 253) (kk := 3) (i := 3) 0 rfl rfl dL_refuses_252 rfl ?_
                                  obtain ⟨hz114, hw68⟩ := hw67
                                  refine j_callSWi X (pc' := 256) (cells' := cz + 46 + 1) (slots' := 8 * (cz + 46) + 6) (As := [.ref v0, .int s0]) (rest := []) (c_L_flips l G A hl0 v0 s0 μ112 _ hw68) (gk_L_flips wt_3_64) hd_L_flips (rmL_fit (k1 := 3) (k := 79) (by omega) (by decide)) rfl rfl (Nat.le_of_ble_eq_true rfl) dL_refuses_253 rfl ⟨by show _ ≤ 160; omega, by show _ ≤ 1280; omega⟩ rfl rfl (fun r115 μ118 hw69 => ?_)
                                  refine j_widen (k1 := cz + 47) (n1 := 8 * (cz + 47)) (by omega) (by omega) ?_
                                  refine j_ldc X (pc' := 258) (v := (-2000000001 : Int32)) wt_2_144 dL_refuses_256 rfl ?_
                                  refine j_icmp_ne X (pc' := 261) (tgt := 357) dL_refuses_258 rfl (by decide) (fun c119 => ?_) (fun c119 => ?_)
                                  · have hw70 := hw69.1 c119
                                    refine j_loc [1, 2, 3] rfl ?_
                                    exact tb_L_refuses_357 X hl0 hkd _ _ _ _ _ hw70
                                  · have hw71 := hw69.2 c119
                                    refine j_aload_n X (pc' := 262) (kk := 0) (i := 0) 1 rfl rfl dL_refuses_261 rfl ?_
                                    refine j_iconst X (pc' := 263) (v := (-1)) (by decide) dL_refuses_262 rfl ?_
                                    refine j_iload_n X (pc' := 264) (kk := 1) (i := 1) 2 rfl rfl dL_refuses_263 rfl ?_
                                    refine j_isub X (pc' := 265) dL_refuses_264 rfl ?_
                                    obtain ⟨hz120, hw72⟩ := hw71
                                    refine j_callSWi X (pc' := 268) (cells' := cz + 47 + 1) (slots' := 8 * (cz + 47) + 6) (As := [.ref v0, .int ((-1 : Int32) - v1)]) (rest := []) (c_L_cuts l G A hl0 v0 ((-1 : Int32) - v1) μ118 _ hw72) (gk_L_cuts wt_3_72) hd_L_cuts (rmL_fit (k1 := 2) (k := 79) (by omega) (by decide)) rfl rfl (Nat.le_of_ble_eq_true rfl) dL_refuses_265 rfl ⟨by show _ ≤ 160; omega, by show _ ≤ 1280; omega⟩ rfl rfl (fun r121 μ124 hw73 => ?_)
                                    refine j_widen (k1 := cz + 48) (n1 := 8 * (cz + 48)) (by omega) (by omega) ?_
                                    refine j_ldc X (pc' := 270) (v := (-2000000002 : Int32)) wt_2_111 dL_refuses_268 rfl ?_
                                    refine j_icmp_ne X (pc' := 273) (tgt := 357) dL_refuses_270 rfl (by decide) (fun c125 => ?_) (fun c125 => ?_)
                                    · have hw74 := hw73.1 c125
                                      refine j_loc [1, 2, 3] rfl ?_
                                      exact tb_L_refuses_357 X hl0 hkd _ _ _ _ _ hw74
                                    · have hw75 := hw73.2 c125
                                      refine j_aload_n X (pc' := 274) (kk := 0) (i := 0) 1 rfl rfl dL_refuses_273 rfl ?_
                                      refine j_aload_n X (pc' := 275) (kk := 0) (i := 0) 1 rfl rfl dL_refuses_274 rfl ?_
                                      obtain ⟨hz126, hw76⟩ := hw75
                                      obtain ⟨⟨f129, hm128⟩, hw77⟩ := hw76
                                      refine j_callVi X (pc' := 278) (cells' := cz + 48 + 0) (slots' := 8 * (cz + 48) + 0) (As := []) (rest := [.ref v0]) (c_X6_bits l G A v0 μ124 _ hw77) (gk_X6_bits wt_1_136) hd_X6_bits (rmL_fit (k1 := 1) (k := 79) (by omega) (by decide)) hm128 rfl rfl rfl (Nat.le_of_ble_eq_true rfl) dL_refuses_275 rfl ⟨by show _ ≤ 160; omega, by show _ ≤ 1280; omega⟩ rfl rfl (fun r127 μ130 hw78 => ?_)
                                      refine j_widen (k1 := cz + 48) (n1 := 8 * (cz + 48)) (by omega) (by omega) ?_
                                      refine j_iconst X (pc' := 279) (v := 1) (by decide) dL_refuses_278 rfl ?_
                                      refine j_iadd X (pc' := 280) dL_refuses_279 rfl ?_
                                      refine j_iload_n X (pc' := 281) (kk := 1) (i := 1) 2 rfl rfl dL_refuses_280 rfl ?_
                                      refine j_iadd X (pc' := 282) dL_refuses_281 rfl ?_
                                      obtain ⟨hz131, hw79⟩ := hw78
                                      refine j_callSWi X (pc' := 285) (cells' := cz + 48 + 1) (slots' := 8 * (cz + 48) + 6) (As := [.ref v0, .int ((r127 + (1 : Int32)) + v1)]) (rest := []) (c_L_cuts l G A hl0 v0 ((r127 + (1 : Int32)) + v1) μ130 _ hw79) (gk_L_cuts wt_3_72) hd_L_cuts (rmL_fit (k1 := 2) (k := 79) (by omega) (by decide)) rfl rfl (Nat.le_of_ble_eq_true rfl) dL_refuses_282 rfl ⟨by show _ ≤ 160; omega, by show _ ≤ 1280; omega⟩ rfl rfl (fun r132 μ135 hw80 => ?_)
                                      refine j_widen (k1 := cz + 49) (n1 := 8 * (cz + 49)) (by omega) (by omega) ?_
                                      refine j_ldc X (pc' := 287) (v := (-2000000002 : Int32)) wt_2_111 dL_refuses_285 rfl ?_
                                      refine j_icmp_ne X (pc' := 290) (tgt := 357) dL_refuses_287 rfl (by decide) (fun c136 => ?_) (fun c136 => ?_)
                                      · have hw81 := hw80.1 c136
                                        refine j_loc [1, 2, 3] rfl ?_
                                        exact tb_L_refuses_357 X hl0 hkd _ _ _ _ _ hw81
                                      · have hw82 := hw80.2 c136
                                        refine j_aload_n X (pc' := 291) (kk := 0) (i := 0) 1 rfl rfl dL_refuses_290 rfl ?_
                                        refine j_iload_n X (pc' := 292) (kk := 2) (i := 2) 3 rfl rfl dL_refuses_291 rfl ?_
                                        refine j_bipush X (pc' := 294) (v := 9) (by decide) dL_refuses_292 rfl ?_
                                        obtain ⟨hz137, hw83⟩ := hw82
                                        refine j_callSWi X (pc' := 297) (cells' := cz + 49 + 3) (slots' := 8 * (cz + 49) + 18) (As := [.ref v0, .int v2, .int ((9 : Int32))]) (rest := []) (c_L_reads l G A hl0 kd hkd v0 v2 (9 : Int32) μ135 _ hw83) (gk_L_reads wt_3_81) hd_L_reads (rmL_fit (k1 := 78) (k := 79) (by omega) (by decide)) rfl rfl (Nat.le_of_ble_eq_true rfl) dL_refuses_294 rfl ⟨by show _ ≤ 160; omega, by show _ ≤ 1280; omega⟩ rfl rfl (fun r138 μ141 hw84 => ?_)
                                        refine j_widen (k1 := cz + 52) (n1 := 8 * (cz + 52)) (by omega) (by omega) ?_
                                        refine j_ldc X (pc' := 299) (v := (-2000000001 : Int32)) wt_2_144 dL_refuses_297 rfl ?_
                                        refine j_icmp_ne X (pc' := 302) (tgt := 357) dL_refuses_299 rfl (by decide) (fun c142 => ?_) (fun c142 => ?_)
                                        · have hw85 := hw84.1 c142
                                          refine j_loc [1, 2, 3] rfl ?_
                                          exact tb_L_refuses_357 X hl0 hkd _ _ _ _ _ hw85
                                        · have hw86 := hw84.2 c142
                                          refine j_aload_n X (pc' := 303) (kk := 0) (i := 0) 1 rfl rfl dL_refuses_302 rfl ?_
                                          refine j_iload_n X (pc' := 304) (kk := 2) (i := 2) 3 rfl rfl dL_refuses_303 rfl ?_
                                          refine j_iconst X (pc' := 305) (v := (-1)) (by decide) dL_refuses_304 rfl ?_
                                          obtain ⟨hz143, hw87⟩ := hw86
                                          refine j_callSWi X (pc' := 308) (cells' := cz + 52 + 2) (slots' := 8 * (cz + 52) + 12) (As := [.ref v0, .int v2, .int ((-1 : Int32))]) (rest := []) (c_L_fault l G A hl0 kd hkd v0 v2 (-1 : Int32) μ141 _ hw87) (gk_L_fault wt_3_138) hd_L_fault (rmL_fit (k1 := 78) (k := 79) (by omega) (by decide)) rfl rfl (Nat.le_of_ble_eq_true rfl) dL_refuses_305 rfl ⟨by show _ ≤ 160; omega, by show _ ≤ 1280; omega⟩ rfl rfl (fun r144 μ147 hw88 => ?_)
                                          refine j_widen (k1 := cz + 54) (n1 := 8 * (cz + 54)) (by omega) (by omega) ?_
                                          refine j_ldc X (pc' := 310) (v := (-2000000001 : Int32)) wt_2_144 dL_refuses_308 rfl ?_
                                          refine j_icmp_ne X (pc' := 313) (tgt := 357) dL_refuses_310 rfl (by decide) (fun c148 => ?_) (fun c148 => ?_)
                                          · have hw89 := hw88.1 c148
                                            refine j_loc [1, 2, 3] rfl ?_
                                            exact tb_L_refuses_357 X hl0 hkd _ _ _ _ _ hw89
                                          · have hw90 := hw88.2 c148
                                            refine j_aload_n X (pc' := 314) (kk := 0) (i := 0) 1 rfl rfl dL_refuses_313 rfl ?_
                                            obtain ⟨hz149, hw91⟩ := hw90
                                            obtain ⟨⟨f152, hm151⟩, hw92⟩ := hw91
                                            refine j_callVi X (pc' := 317) (cells' := cz + 54 + 0) (slots' := 8 * (cz + 54) + 0) (As := []) (rest := []) (c_X6_types l G A v0 μ147 _ hw92) (gk_X6_types wt_1_128) hd_X6_types (rmL_fit (k1 := 1) (k := 79) (by omega) (by decide)) hm151 rfl rfl rfl (Nat.le_of_ble_eq_true rfl) dL_refuses_314 rfl ⟨by show _ ≤ 160; omega, by show _ ≤ 1280; omega⟩ rfl rfl (fun r150 μ153 hw93 => ?_)
                                            refine j_widen (k1 := cz + 54) (n1 := 8 * (cz + 54)) (by omega) (by omega) ?_
                                            refine j_bipush X (pc' := 319) (v := 16) (by decide) dL_refuses_317 rfl ?_
                                            refine j_icmp_lt X (pc' := 322) (tgt := 333) dL_refuses_319 rfl (by decide) (fun c154 => ?_) (fun c154 => ?_)
                                            · have hw94 := hw93.1 c154
                                              refine j_loc [1, 2, 3] rfl ?_
                                              exact tb_L_refuses_333 X hl0 hkd _ _ _ _ _ hw94
                                            · have hw95 := hw93.2 c154
                                              refine j_aload_n X (pc' := 323) (kk := 0) (i := 0) 1 rfl rfl dL_refuses_322 rfl ?_
                                              refine j_iconst X (pc' := 324) (v := 0) (by decide) dL_refuses_323 rfl ?_
                                              refine j_iconst X (pc' := 325) (v := 1) (by decide) dL_refuses_324 rfl ?_
                                              obtain ⟨hz155, hw96⟩ := hw95
                                              refine j_callSWi X (pc' := 328) (cells' := cz + 54 + 6) (slots' := 8 * (cz + 54) + 23) (As := [.ref v0, .int ((0 : Int32)), .int ((1 : Int32))]) (rest := []) (c_L_numbers l G A hl0 kd hkd v0 (0 : Int32) (1 : Int32) μ153 _ hw96) (gk_L_numbers wt_1_144) hd_L_numbers (rmL_fit (k1 := 5) (k := 79) (by omega) (by decide)) rfl rfl (Nat.le_of_ble_eq_true rfl) dL_refuses_325 rfl ⟨by show _ ≤ 160; omega, by show _ ≤ 1280; omega⟩ rfl rfl (fun r156 μ159 hw97 => ?_)
                                              refine j_widen (k1 := cz + 60) (n1 := 8 * (cz + 60)) (by omega) (by omega) ?_
                                              refine j_ldc X (pc' := 330) (v := (-2000000003 : Int32)) wt_2_112 dL_refuses_328 rfl ?_
                                              refine j_icmp_ne X (pc' := 333) (tgt := 357) dL_refuses_330 rfl (by decide) (fun c160 => ?_) (fun c160 => ?_)
                                              · have hw98 := hw97.1 c160
                                                refine j_loc [1, 2, 3] rfl ?_
                                                exact tb_L_refuses_357 X hl0 hkd _ _ _ _ _ hw98
                                              · have hw99 := hw97.2 c160
                                                refine j_loc [1, 2, 3] rfl ?_
                                                exact tb_L_refuses_333 X hl0 hkd _ _ _ _ _ hw99
def wb_L_refuses_24 (kd : Nat → Nat) (post : Int32 → Mm → Prop)  (v0 : Nat) (v1 : Int32) (s0 : Int32) (μ : Mm) (cz : Nat) : Prop := (¬ (v1 - v1 / (2 : Int32) * (2 : Int32)) = 0 → (cz ≤ 160 ∧ (∃ f11, μ v0 = some (.inl (5, f11))) ∧ wp_X6_bits v0 μ (fun r9 μ12 => wb_L_refuses_49 kd post v0 v1 s0 (r9 + (v1 - v1 / (50 : Int32) * (50 : Int32))) μ12 cz))) ∧ ((v1 - v1 / (2 : Int32) * (2 : Int32)) = 0 → (wb_L_refuses_49 kd post v0 v1 s0 ((-1 : Int32) - (v1 - v1 / (50 : Int32) * (50 : Int32))) μ cz))
set_option maxHeartbeats 4000000 in
set_option maxRecDepth 100000 in
theorem tb_L_refuses_24 {p : Program} {l : Launch} {e : Env} {s : State} {m : MethodId} {args : Array Value} {below : List Frame} {meth : Method} {c : Code} {G : gG} {A : Nat → Prop} {kd : Nat → Nat} {post : Int32 → Mm → Prop} (X : Cx p l s m args meth c cL_refuses 6 (some .boolean) RL G A) (hl0 : l.stackTraces = false) (hkd : G.2.2 = kd) : ∀ (v0 : Nat) (v1 : Int32) (s0 : Int32) (μ : Mm) (cz : Nat), wb_L_refuses_24 kd post v0 v1 s0 μ cz → J p l e (rmL (79) 160 1280) s m args below meth c 6 G A (MQ below (QG G A (pI post)) args s 160 1280 A) cz (8 * cz) 24 [(0, .ref v0), (1, .int v1)] [.int s0] μ := by
  intro v0 v1 s0 μ cz hw
  unfold wb_L_refuses_24 at hw
  refine j_istore_n X (pc' := 25) (kk := 2) (i := 2) (loc' := [(2, .int s0), (0, .ref v0), (1, .int v1)]) dL_refuses_24 rfl rfl (by decide) rfl ?_
  refine j_iload_n X (pc' := 26) (kk := 1) (i := 1) 2 rfl rfl dL_refuses_25 rfl ?_
  refine j_iconst X (pc' := 27) (v := 2) (by decide) dL_refuses_26 rfl ?_
  refine j_irem X (pc' := 28) (by decide) dL_refuses_27 rfl ?_
  refine j_if_ne X (pc' := 31) (tgt := 40) dL_refuses_28 rfl (by decide) (fun c7 => ?_) (fun c7 => ?_)
  · have hw1 := hw.1 c7
    refine j_aload_n X (pc' := 41) (kk := 0) (i := 0) 1 rfl rfl dL_refuses_40 rfl ?_
    obtain ⟨hz8, hw2⟩ := hw1
    obtain ⟨⟨f11, hm10⟩, hw3⟩ := hw2
    refine j_callVi X (pc' := 44) (cells' := cz + 0) (slots' := 8 * (cz) + 0) (As := []) (rest := []) (c_X6_bits l G A v0 μ _ hw3) (gk_X6_bits wt_1_136) hd_X6_bits (rmL_fit (k1 := 1) (k := 79) (by omega) (by decide)) hm10 rfl rfl rfl (Nat.le_of_ble_eq_true rfl) dL_refuses_41 rfl ⟨by show _ ≤ 160; omega, by show _ ≤ 1280; omega⟩ rfl rfl (fun r9 μ12 hw4 => ?_)
    refine j_widen (k1 := cz) (n1 := 8 * (cz)) (by omega) (by omega) ?_
    refine j_iload_n X (pc' := 45) (kk := 1) (i := 1) 2 rfl rfl dL_refuses_44 rfl ?_
    refine j_bipush X (pc' := 47) (v := 50) (by decide) dL_refuses_45 rfl ?_
    refine j_irem X (pc' := 48) (by decide) dL_refuses_47 rfl ?_
    refine j_iadd X (pc' := 49) dL_refuses_48 rfl ?_
    refine j_loc [1, 2, 0] rfl ?_
    exact tb_L_refuses_49 X hl0 hkd _ _ _ _ _ _ hw4
  · have hw5 := hw.2 c7
    refine j_iconst X (pc' := 32) (v := (-1)) (by decide) dL_refuses_31 rfl ?_
    refine j_iload_n X (pc' := 33) (kk := 1) (i := 1) 2 rfl rfl dL_refuses_32 rfl ?_
    refine j_bipush X (pc' := 35) (v := 50) (by decide) dL_refuses_33 rfl ?_
    refine j_irem X (pc' := 36) (by decide) dL_refuses_35 rfl ?_
    refine j_isub X (pc' := 37) dL_refuses_36 rfl ?_
    refine j_goto X (tgt := 49) dL_refuses_37 (by decide) ?_
    refine j_loc [1, 2, 0] rfl ?_
    exact tb_L_refuses_49 X hl0 hkd _ _ _ _ _ _ hw5
def wp_L_refuses (kd : Nat → Nat) (x1 : Nat) (x2 : Int32) (μ : Mm) (post : Int32 → Mm → Prop) : Prop := (¬ (x2 - x2 / (2 : Int32) * (2 : Int32)) = 0 → (0 ≤ 160 ∧ (∃ f5, μ x1 = some (.inl (5, f5))) ∧ wp_X6_types x1 μ (fun r3 μ6 => wb_L_refuses_24 kd post x1 x2 (r3 + (x2 - x2 / (50 : Int32) * (50 : Int32))) μ6 0))) ∧ ((x2 - x2 / (2 : Int32) * (2 : Int32)) = 0 → (wb_L_refuses_24 kd post x1 x2 ((-1 : Int32) - (x2 - x2 / (50 : Int32) * (50 : Int32))) μ 0))
set_option maxHeartbeats 4000000 in
set_option maxRecDepth 100000 in
theorem c_L_refuses (l : Launch) (G : gG) (A : Nat → Prop) (hl0 : l.stackTraces = false) (kd : Nat → Nat) (hkd : G.2.2 = kd) (x1 : Nat) (x2 : Int32) (μ : Mm) (post : Int32 → Mm → Prop) (h : wp_L_refuses kd x1 x2 μ post) : Met l yL_refuses (.code yL_refuses cL_refuses 6 (some .boolean) :: wsA) (rmL (79) 160 1280) (PcG G A μ [.ref x1, .int x2]) (QG G A (pI post)) 160 1280 A := by
  refine met_J (loc := [(0, .ref x1), (1, .int x2)]) (by decide +kernel) (Nat.le_of_ble_eq_true rfl) rfl ?_
  intro p e s m args below meth c X hin
  have X : Cx p l s m args meth c cL_refuses 6 (some .boolean) RL G A := X
  have hw := h
  unfold wp_L_refuses at hw
  refine j_iload_n X (pc' := 1) (kk := 1) (i := 1) 1 rfl rfl dL_refuses_0 rfl ?_
  refine j_iconst X (pc' := 2) (v := 2) (by decide) dL_refuses_1 rfl ?_
  refine j_irem X (pc' := 3) (by decide) dL_refuses_2 rfl ?_
  refine j_if_ne X (pc' := 6) (tgt := 15) dL_refuses_3 rfl (by decide) (fun c1 => ?_) (fun c1 => ?_)
  · have hw1 := hw.1 c1
    refine j_aload_n X (pc' := 16) (kk := 0) (i := 0) 0 rfl rfl dL_refuses_15 rfl ?_
    obtain ⟨hz2, hw2⟩ := hw1
    obtain ⟨⟨f5, hm4⟩, hw3⟩ := hw2
    refine j_callVi X (pc' := 19) (cells' := 0 + 0) (slots' := 8 * (0) + 0) (As := []) (rest := []) (c_X6_types l G A x1 μ _ hw3) (gk_X6_types wt_1_128) hd_X6_types (rmL_fit (k1 := 1) (k := 79) (by omega) (by decide)) hm4 rfl rfl rfl (Nat.le_of_ble_eq_true rfl) dL_refuses_16 rfl ⟨by show _ ≤ 160; omega, by show _ ≤ 1280; omega⟩ rfl rfl (fun r3 μ6 hw4 => ?_)
    refine j_widen (k1 := 0) (n1 := 8 * (0)) (by omega) (by omega) ?_
    refine j_iload_n X (pc' := 20) (kk := 1) (i := 1) 1 rfl rfl dL_refuses_19 rfl ?_
    refine j_bipush X (pc' := 22) (v := 50) (by decide) dL_refuses_20 rfl ?_
    refine j_irem X (pc' := 23) (by decide) dL_refuses_22 rfl ?_
    refine j_iadd X (pc' := 24) dL_refuses_23 rfl ?_
    exact tb_L_refuses_24 X hl0 hkd _ _ _ _ _ hw4
  · have hw5 := hw.2 c1
    refine j_iconst X (pc' := 7) (v := (-1)) (by decide) dL_refuses_6 rfl ?_
    refine j_iload_n X (pc' := 8) (kk := 1) (i := 1) 1 rfl rfl dL_refuses_7 rfl ?_
    refine j_bipush X (pc' := 10) (v := 50) (by decide) dL_refuses_8 rfl ?_
    refine j_irem X (pc' := 11) (by decide) dL_refuses_10 rfl ?_
    refine j_isub X (pc' := 12) dL_refuses_11 rfl ?_
    refine j_goto X (tgt := 24) dL_refuses_12 (by decide) ?_
    exact tb_L_refuses_24 X hl0 hkd _ _ _ _ _ hw5
theorem hd_L_holds : yL_holds.cls ≠ "java/lang/invoke/MethodHandle" ∧ yL_holds.cls ≠ "java/lang/invoke/VarHandle" ∧ (parseMethodDescriptor yL_holds.desc).map (fun d => d.parameters.length) = some 2 := ⟨by decide +kernel, by decide +kernel, by decide +kernel⟩
theorem gk_L_holds {own : String} {idx : Nat} (h : Cond.methodLink own idx yL_holds ∈ wsA) : GoodIn wsA (va_wsS own idx yL_holds (.code yL_holds cL_holds 12 (some .boolean) :: wsA)) := gd_S h wt_3_179 wt_1_0 wt_3_180
/-! BitNotationLaw.holds(LBitNotation;I)Z -/
theorem dL_holds_0 : decode cL_holds 0 = .ok (.aload_n 0, 1) := by decide +kernel
theorem dL_holds_1 : decode cL_holds 1 = .ok (.invokevirtual 79, 3) := by decide +kernel
theorem dL_holds_4 : decode cL_holds 4 = .ok (.sipush 240, 3) := by decide +kernel
theorem dL_holds_7 : decode cL_holds 7 = .ok (.if_icmp .gt 17, 3) := by decide +kernel
theorem dL_holds_10 : decode cL_holds 10 = .ok (.aload_n 0, 1) := by decide +kernel
theorem dL_holds_11 : decode cL_holds 11 = .ok (.invokevirtual 110, 3) := by decide +kernel
theorem dL_holds_14 : decode cL_holds 14 = .ok (.sipush 300, 3) := by decide +kernel
theorem dL_holds_17 : decode cL_holds 17 = .ok (.if_icmp .gt 7, 3) := by decide +kernel
theorem dL_holds_20 : decode cL_holds 20 = .ok (.iconst 1, 1) := by decide +kernel
theorem dL_holds_21 : decode cL_holds 21 = .ok (.goto 4, 3) := by decide +kernel
theorem dL_holds_24 : decode cL_holds 24 = .ok (.iconst 0, 1) := by decide +kernel
theorem dL_holds_25 : decode cL_holds 25 = .ok (.istore_n 2, 1) := by decide +kernel
theorem dL_holds_26 : decode cL_holds 26 = .ok (.iconst 0, 1) := by decide +kernel
theorem dL_holds_27 : decode cL_holds 27 = .ok (.istore_n 3, 1) := by decide +kernel
theorem dL_holds_28 : decode cL_holds 28 = .ok (.iload_n 3, 1) := by decide +kernel
theorem dL_holds_29 : decode cL_holds 29 = .ok (.aload_n 0, 1) := by decide +kernel
theorem dL_holds_30 : decode cL_holds 30 = .ok (.invokevirtual 76, 3) := by decide +kernel
theorem dL_holds_33 : decode cL_holds 33 = .ok (.if_icmp .ge 86, 3) := by decide +kernel
theorem dL_holds_36 : decode cL_holds 36 = .ok (.iload_n 2, 1) := by decide +kernel
theorem dL_holds_37 : decode cL_holds 37 = .ok (.ifCond .eq 82, 3) := by decide +kernel
theorem dL_holds_40 : decode cL_holds 40 = .ok (.aload_n 0, 1) := by decide +kernel
theorem dL_holds_41 : decode cL_holds 41 = .ok (.iload_n 3, 1) := by decide +kernel
theorem dL_holds_42 : decode cL_holds 42 = .ok (.invokestatic 98, 3) := by decide +kernel
theorem dL_holds_45 : decode cL_holds 45 = .ok (.ifCond .lt 66, 3) := by decide +kernel
theorem dL_holds_48 : decode cL_holds 48 = .ok (.aload_n 0, 1) := by decide +kernel
theorem dL_holds_49 : decode cL_holds 49 = .ok (.iload_n 3, 1) := by decide +kernel
theorem dL_holds_50 : decode cL_holds 50 = .ok (.invokestatic 98, 3) := by decide +kernel
theorem dL_holds_53 : decode cL_holds 53 = .ok (.aload_n 0, 1) := by decide +kernel
theorem dL_holds_54 : decode cL_holds 54 = .ok (.iload_n 3, 1) := by decide +kernel
theorem dL_holds_55 : decode cL_holds 55 = .ok (.invokestatic 102, 3) := by decide +kernel
theorem dL_holds_58 : decode cL_holds 58 = .ok (.if_icmp .gt 53, 3) := by decide +kernel
theorem dL_holds_61 : decode cL_holds 61 = .ok (.aload_n 0, 1) := by decide +kernel
theorem dL_holds_62 : decode cL_holds 62 = .ok (.iload_n 3, 1) := by decide +kernel
theorem dL_holds_63 : decode cL_holds 63 = .ok (.invokestatic 102, 3) := by decide +kernel
theorem dL_holds_66 : decode cL_holds 66 = .ok (.sipush 240, 3) := by decide +kernel
theorem dL_holds_69 : decode cL_holds 69 = .ok (.if_icmp .gt 42, 3) := by decide +kernel
theorem dL_holds_72 : decode cL_holds 72 = .ok (.aload_n 0, 1) := by decide +kernel
theorem dL_holds_73 : decode cL_holds 73 = .ok (.iload_n 3, 1) := by decide +kernel
theorem dL_holds_74 : decode cL_holds 74 = .ok (.iconst 3, 1) := by decide +kernel
theorem dL_holds_75 : decode cL_holds 75 = .ok (.invokestatic 130, 3) := by decide +kernel
theorem dL_holds_78 : decode cL_holds 78 = .ok (.iconst (-1), 1) := by decide +kernel
theorem dL_holds_79 : decode cL_holds 79 = .ok (.if_icmp .lt 32, 3) := by decide +kernel
theorem dL_holds_82 : decode cL_holds 82 = .ok (.aload_n 0, 1) := by decide +kernel
theorem dL_holds_83 : decode cL_holds 83 = .ok (.iload_n 3, 1) := by decide +kernel
theorem dL_holds_84 : decode cL_holds 84 = .ok (.iconst 3, 1) := by decide +kernel
theorem dL_holds_85 : decode cL_holds 85 = .ok (.invokestatic 130, 3) := by decide +kernel
theorem dL_holds_88 : decode cL_holds 88 = .ok (.aload_n 0, 1) := by decide +kernel
theorem dL_holds_89 : decode cL_holds 89 = .ok (.invokevirtual 79, 3) := by decide +kernel
theorem dL_holds_92 : decode cL_holds 92 = .ok (.if_icmp .gt 19, 3) := by decide +kernel
theorem dL_holds_95 : decode cL_holds 95 = .ok (.aload_n 0, 1) := by decide +kernel
theorem dL_holds_96 : decode cL_holds 96 = .ok (.iload_n 3, 1) := by decide +kernel
theorem dL_holds_97 : decode cL_holds 97 = .ok (.invokestatic 113, 3) := by decide +kernel
theorem dL_holds_100 : decode cL_holds 100 = .ok (.aload_n 0, 1) := by decide +kernel
theorem dL_holds_101 : decode cL_holds 101 = .ok (.invokevirtual 110, 3) := by decide +kernel
theorem dL_holds_104 : decode cL_holds 104 = .ok (.if_icmp .gt 7, 3) := by decide +kernel
theorem dL_holds_107 : decode cL_holds 107 = .ok (.iconst 1, 1) := by decide +kernel
theorem dL_holds_108 : decode cL_holds 108 = .ok (.goto 4, 3) := by decide +kernel
theorem dL_holds_111 : decode cL_holds 111 = .ok (.iconst 0, 1) := by decide +kernel
theorem dL_holds_112 : decode cL_holds 112 = .ok (.istore_n 2, 1) := by decide +kernel
theorem dL_holds_113 : decode cL_holds 113 = .ok (.iinc 3 1, 3) := by decide +kernel
theorem dL_holds_116 : decode cL_holds 116 = .ok (.goto (-88), 3) := by decide +kernel
theorem dL_holds_119 : decode cL_holds 119 = .ok (.aload_n 0, 1) := by decide +kernel
theorem dL_holds_120 : decode cL_holds 120 = .ok (.invokevirtual 76, 3) := by decide +kernel
theorem dL_holds_123 : decode cL_holds 123 = .ok (.ifCond .ne 7, 3) := by decide +kernel
theorem dL_holds_126 : decode cL_holds 126 = .ok (.iconst 0, 1) := by decide +kernel
theorem dL_holds_127 : decode cL_holds 127 = .ok (.goto 9, 3) := by decide +kernel
theorem dL_holds_130 : decode cL_holds 130 = .ok (.iload_n 1, 1) := by decide +kernel
theorem dL_holds_131 : decode cL_holds 131 = .ok (.aload_n 0, 1) := by decide +kernel
theorem dL_holds_132 : decode cL_holds 132 = .ok (.invokevirtual 76, 3) := by decide +kernel
theorem dL_holds_135 : decode cL_holds 135 = .ok (.irem, 1) := by decide +kernel
theorem dL_holds_136 : decode cL_holds 136 = .ok (.istore_n 3, 1) := by decide +kernel
theorem dL_holds_137 : decode cL_holds 137 = .ok (.iload_n 2, 1) := by decide +kernel
theorem dL_holds_138 : decode cL_holds 138 = .ok (.ifCond .eq 457, 3) := by decide +kernel
theorem dL_holds_141 : decode cL_holds 141 = .ok (.aload_n 0, 1) := by decide +kernel
theorem dL_holds_142 : decode cL_holds 142 = .ok (.invokevirtual 76, 3) := by decide +kernel
theorem dL_holds_145 : decode cL_holds 145 = .ok (.ifCond .le 450, 3) := by decide +kernel
theorem dL_holds_148 : decode cL_holds 148 = .ok (.aload_n 0, 1) := by decide +kernel
theorem dL_holds_149 : decode cL_holds 149 = .ok (.iload_n 3, 1) := by decide +kernel
theorem dL_holds_150 : decode cL_holds 150 = .ok (.invokestatic 113, 3) := by decide +kernel
theorem dL_holds_153 : decode cL_holds 153 = .ok (.iconst (-1), 1) := by decide +kernel
theorem dL_holds_154 : decode cL_holds 154 = .ok (.if_icmp .ne 441, 3) := by decide +kernel
theorem dL_holds_157 : decode cL_holds 157 = .ok (.aload_n 0, 1) := by decide +kernel
theorem dL_holds_158 : decode cL_holds 158 = .ok (.invokevirtual 110, 3) := by decide +kernel
theorem dL_holds_161 : decode cL_holds 161 = .ok (.istore 4, 2) := by decide +kernel
theorem dL_holds_163 : decode cL_holds 163 = .ok (.iload 4, 2) := by decide +kernel
theorem dL_holds_165 : decode cL_holds 165 = .ok (.ifCond .ne 7, 3) := by decide +kernel
theorem dL_holds_168 : decode cL_holds 168 = .ok (.iconst 0, 1) := by decide +kernel
theorem dL_holds_169 : decode cL_holds 169 = .ok (.goto 8, 3) := by decide +kernel
theorem dL_holds_172 : decode cL_holds 172 = .ok (.aload_n 0, 1) := by decide +kernel
theorem dL_holds_173 : decode cL_holds 173 = .ok (.iconst 0, 1) := by decide +kernel
theorem dL_holds_174 : decode cL_holds 174 = .ok (.invokestatic 108, 3) := by decide +kernel
theorem dL_holds_177 : decode cL_holds 177 = .ok (.istore 5, 2) := by decide +kernel
theorem dL_holds_179 : decode cL_holds 179 = .ok (.iload 4, 2) := by decide +kernel
theorem dL_holds_181 : decode cL_holds 181 = .ok (.ifCond .ne 7, 3) := by decide +kernel
theorem dL_holds_184 : decode cL_holds 184 = .ok (.iconst 0, 1) := by decide +kernel
theorem dL_holds_185 : decode cL_holds 185 = .ok (.goto 11, 3) := by decide +kernel
theorem dL_holds_188 : decode cL_holds 188 = .ok (.aload_n 0, 1) := by decide +kernel
theorem dL_holds_189 : decode cL_holds 189 = .ok (.iload 4, 2) := by decide +kernel
theorem dL_holds_191 : decode cL_holds 191 = .ok (.iconst 1, 1) := by decide +kernel
theorem dL_holds_192 : decode cL_holds 192 = .ok (.isub, 1) := by decide +kernel
theorem dL_holds_193 : decode cL_holds 193 = .ok (.invokestatic 108, 3) := by decide +kernel
theorem dL_holds_196 : decode cL_holds 196 = .ok (.istore 6, 2) := by decide +kernel
theorem dL_holds_198 : decode cL_holds 198 = .ok (.aload_n 0, 1) := by decide +kernel
theorem dL_holds_199 : decode cL_holds 199 = .ok (.iload_n 3, 1) := by decide +kernel
theorem dL_holds_200 : decode cL_holds 200 = .ok (.invokestatic 116, 3) := by decide +kernel
theorem dL_holds_203 : decode cL_holds 203 = .ok (.istore 7, 2) := by decide +kernel
theorem dL_holds_205 : decode cL_holds 205 = .ok (.iload 7, 2) := by decide +kernel
theorem dL_holds_207 : decode cL_holds 207 = .ok (.aload_n 0, 1) := by decide +kernel
theorem dL_holds_208 : decode cL_holds 208 = .ok (.iload_n 3, 1) := by decide +kernel
theorem dL_holds_209 : decode cL_holds 209 = .ok (.invokestatic 98, 3) := by decide +kernel
theorem dL_holds_212 : decode cL_holds 212 = .ok (.if_icmp .lt 97, 3) := by decide +kernel
theorem dL_holds_215 : decode cL_holds 215 = .ok (.iload 7, 2) := by decide +kernel
theorem dL_holds_217 : decode cL_holds 217 = .ok (.aload_n 0, 1) := by decide +kernel
theorem dL_holds_218 : decode cL_holds 218 = .ok (.iload_n 3, 1) := by decide +kernel
theorem dL_holds_219 : decode cL_holds 219 = .ok (.invokestatic 102, 3) := by decide +kernel
theorem dL_holds_222 : decode cL_holds 222 = .ok (.if_icmp .gt 87, 3) := by decide +kernel
theorem dL_holds_225 : decode cL_holds 225 = .ok (.aload_n 0, 1) := by decide +kernel
theorem dL_holds_226 : decode cL_holds 226 = .ok (.iload_n 3, 1) := by decide +kernel
theorem dL_holds_227 : decode cL_holds 227 = .ok (.iconst 3, 1) := by decide +kernel
theorem dL_holds_228 : decode cL_holds 228 = .ok (.invokestatic 130, 3) := by decide +kernel
theorem dL_holds_231 : decode cL_holds 231 = .ok (.iconst (-1), 1) := by decide +kernel
theorem dL_holds_232 : decode cL_holds 232 = .ok (.if_icmp .ne 77, 3) := by decide +kernel
theorem dL_holds_235 : decode cL_holds 235 = .ok (.aload_n 0, 1) := by decide +kernel
theorem dL_holds_236 : decode cL_holds 236 = .ok (.iload_n 3, 1) := by decide +kernel
theorem dL_holds_237 : decode cL_holds 237 = .ok (.iload_n 1, 1) := by decide +kernel
theorem dL_holds_238 : decode cL_holds 238 = .ok (.iconst 4, 1) := by decide +kernel
theorem dL_holds_239 : decode cL_holds 239 = .ok (.irem, 1) := by decide +kernel
theorem dL_holds_240 : decode cL_holds 240 = .ok (.invokestatic 130, 3) := by decide +kernel
theorem dL_holds_243 : decode cL_holds 243 = .ok (.iconst (-1), 1) := by decide +kernel
theorem dL_holds_244 : decode cL_holds 244 = .ok (.if_icmp .ne 65, 3) := by decide +kernel
theorem dL_holds_247 : decode cL_holds 247 = .ok (.aload_n 0, 1) := by decide +kernel
theorem dL_holds_248 : decode cL_holds 248 = .ok (.iload_n 3, 1) := by decide +kernel
theorem dL_holds_249 : decode cL_holds 249 = .ok (.iconst 3, 1) := by decide +kernel
theorem dL_holds_250 : decode cL_holds 250 = .ok (.invokestatic 127, 3) := by decide +kernel
theorem dL_holds_253 : decode cL_holds 253 = .ok (.iload 4, 2) := by decide +kernel
theorem dL_holds_255 : decode cL_holds 255 = .ok (.if_icmp .ne 54, 3) := by decide +kernel
theorem dL_holds_258 : decode cL_holds 258 = .ok (.aload_n 0, 1) := by decide +kernel
theorem dL_holds_259 : decode cL_holds 259 = .ok (.iload_n 3, 1) := by decide +kernel
theorem dL_holds_260 : decode cL_holds 260 = .ok (.invokestatic 113, 3) := by decide +kernel
theorem dL_holds_263 : decode cL_holds 263 = .ok (.iconst (-1), 1) := by decide +kernel
theorem dL_holds_264 : decode cL_holds 264 = .ok (.if_icmp .ne 45, 3) := by decide +kernel
theorem dL_holds_267 : decode cL_holds 267 = .ok (.iload 4, 2) := by decide +kernel
theorem dL_holds_269 : decode cL_holds 269 = .ok (.ifCond .eq 26, 3) := by decide +kernel
theorem dL_holds_272 : decode cL_holds 272 = .ok (.aload_n 0, 1) := by decide +kernel
theorem dL_holds_273 : decode cL_holds 273 = .ok (.iconst 0, 1) := by decide +kernel
theorem dL_holds_274 : decode cL_holds 274 = .ok (.invokestatic 108, 3) := by decide +kernel
theorem dL_holds_277 : decode cL_holds 277 = .ok (.iload 5, 2) := by decide +kernel
theorem dL_holds_279 : decode cL_holds 279 = .ok (.if_icmp .ne 30, 3) := by decide +kernel
theorem dL_holds_282 : decode cL_holds 282 = .ok (.aload_n 0, 1) := by decide +kernel
theorem dL_holds_283 : decode cL_holds 283 = .ok (.iload 4, 2) := by decide +kernel
theorem dL_holds_285 : decode cL_holds 285 = .ok (.iconst 1, 1) := by decide +kernel
theorem dL_holds_286 : decode cL_holds 286 = .ok (.isub, 1) := by decide +kernel
theorem dL_holds_287 : decode cL_holds 287 = .ok (.invokestatic 108, 3) := by decide +kernel
theorem dL_holds_290 : decode cL_holds 290 = .ok (.iload 6, 2) := by decide +kernel
theorem dL_holds_292 : decode cL_holds 292 = .ok (.if_icmp .ne 17, 3) := by decide +kernel
theorem dL_holds_295 : decode cL_holds 295 = .ok (.aload_n 0, 1) := by decide +kernel
theorem dL_holds_296 : decode cL_holds 296 = .ok (.iload_n 3, 1) := by decide +kernel
theorem dL_holds_297 : decode cL_holds 297 = .ok (.invokestatic 116, 3) := by decide +kernel
theorem dL_holds_300 : decode cL_holds 300 = .ok (.iload 7, 2) := by decide +kernel
theorem dL_holds_302 : decode cL_holds 302 = .ok (.if_icmp .ne 7, 3) := by decide +kernel
theorem dL_holds_305 : decode cL_holds 305 = .ok (.iconst 1, 1) := by decide +kernel
theorem dL_holds_306 : decode cL_holds 306 = .ok (.goto 4, 3) := by decide +kernel
theorem dL_holds_309 : decode cL_holds 309 = .ok (.iconst 0, 1) := by decide +kernel
theorem dL_holds_310 : decode cL_holds 310 = .ok (.istore_n 2, 1) := by decide +kernel
theorem dL_holds_311 : decode cL_holds 311 = .ok (.iconst 0, 1) := by decide +kernel
theorem dL_holds_312 : decode cL_holds 312 = .ok (.istore 8, 2) := by decide +kernel
theorem dL_holds_314 : decode cL_holds 314 = .ok (.iload 8, 2) := by decide +kernel
theorem dL_holds_316 : decode cL_holds 316 = .ok (.iconst 4, 1) := by decide +kernel
theorem dL_holds_317 : decode cL_holds 317 = .ok (.if_icmp .ge 207, 3) := by decide +kernel
theorem dL_holds_320 : decode cL_holds 320 = .ok (.iload_n 2, 1) := by decide +kernel
theorem dL_holds_321 : decode cL_holds 321 = .ok (.ifCond .eq 203, 3) := by decide +kernel
theorem dL_holds_324 : decode cL_holds 324 = .ok (.iload 7, 2) := by decide +kernel
theorem dL_holds_326 : decode cL_holds 326 = .ok (.ifCond .le 198, 3) := by decide +kernel
theorem dL_holds_329 : decode cL_holds 329 = .ok (.iload_n 1, 1) := by decide +kernel
theorem dL_holds_330 : decode cL_holds 330 = .ok (.iconst 4, 1) := by decide +kernel
theorem dL_holds_331 : decode cL_holds 331 = .ok (.iload 8, 2) := by decide +kernel
theorem dL_holds_333 : decode cL_holds 333 = .ok (.iadd, 1) := by decide +kernel
theorem dL_holds_334 : decode cL_holds 334 = .ok (.idiv, 1) := by decide +kernel
theorem dL_holds_335 : decode cL_holds 335 = .ok (.iload 7, 2) := by decide +kernel
theorem dL_holds_337 : decode cL_holds 337 = .ok (.irem, 1) := by decide +kernel
theorem dL_holds_338 : decode cL_holds 338 = .ok (.istore 9, 2) := by decide +kernel
theorem dL_holds_340 : decode cL_holds 340 = .ok (.aload_n 0, 1) := by decide +kernel
theorem dL_holds_341 : decode cL_holds 341 = .ok (.iload 9, 2) := by decide +kernel
theorem dL_holds_343 : decode cL_holds 343 = .ok (.invokestatic 121, 3) := by decide +kernel
theorem dL_holds_346 : decode cL_holds 346 = .ok (.istore 10, 2) := by decide +kernel
theorem dL_holds_348 : decode cL_holds 348 = .ok (.aload_n 0, 1) := by decide +kernel
theorem dL_holds_349 : decode cL_holds 349 = .ok (.iload_n 3, 1) := by decide +kernel
theorem dL_holds_350 : decode cL_holds 350 = .ok (.iconst 3, 1) := by decide +kernel
theorem dL_holds_351 : decode cL_holds 351 = .ok (.invokestatic 130, 3) := by decide +kernel
theorem dL_holds_354 : decode cL_holds 354 = .ok (.istore 11, 2) := by decide +kernel
theorem dL_holds_356 : decode cL_holds 356 = .ok (.iload 10, 2) := by decide +kernel
theorem dL_holds_358 : decode cL_holds 358 = .ok (.ifCond .eq 9, 3) := by decide +kernel
theorem dL_holds_361 : decode cL_holds 361 = .ok (.iload 10, 2) := by decide +kernel
theorem dL_holds_363 : decode cL_holds 363 = .ok (.iconst 1, 1) := by decide +kernel
theorem dL_holds_364 : decode cL_holds 364 = .ok (.if_icmp .ne 7, 3) := by decide +kernel
theorem dL_holds_367 : decode cL_holds 367 = .ok (.iconst 1, 1) := by decide +kernel
theorem dL_holds_368 : decode cL_holds 368 = .ok (.goto 4, 3) := by decide +kernel
theorem dL_holds_371 : decode cL_holds 371 = .ok (.iconst 0, 1) := by decide +kernel
theorem dL_holds_372 : decode cL_holds 372 = .ok (.istore_n 2, 1) := by decide +kernel
theorem dL_holds_373 : decode cL_holds 373 = .ok (.iload_n 2, 1) := by decide +kernel
theorem dL_holds_374 : decode cL_holds 374 = .ok (.ifCond .eq 88, 3) := by decide +kernel
theorem dL_holds_377 : decode cL_holds 377 = .ok (.iload 11, 2) := by decide +kernel
theorem dL_holds_379 : decode cL_holds 379 = .ok (.iconst (-1), 1) := by decide +kernel
theorem dL_holds_380 : decode cL_holds 380 = .ok (.if_icmp .ne 82, 3) := by decide +kernel
theorem dL_holds_383 : decode cL_holds 383 = .ok (.aload_n 0, 1) := by decide +kernel
theorem dL_holds_384 : decode cL_holds 384 = .ok (.iload_n 3, 1) := by decide +kernel
theorem dL_holds_385 : decode cL_holds 385 = .ok (.iconst 3, 1) := by decide +kernel
theorem dL_holds_386 : decode cL_holds 386 = .ok (.invokestatic 127, 3) := by decide +kernel
theorem dL_holds_389 : decode cL_holds 389 = .ok (.ifCond .le 68, 3) := by decide +kernel
theorem dL_holds_392 : decode cL_holds 392 = .ok (.aload_n 0, 1) := by decide +kernel
theorem dL_holds_393 : decode cL_holds 393 = .ok (.iload_n 3, 1) := by decide +kernel
theorem dL_holds_394 : decode cL_holds 394 = .ok (.invokestatic 113, 3) := by decide +kernel
theorem dL_holds_397 : decode cL_holds 397 = .ok (.iconst (-1), 1) := by decide +kernel
theorem dL_holds_398 : decode cL_holds 398 = .ok (.if_icmp .ne 59, 3) := by decide +kernel
theorem dL_holds_401 : decode cL_holds 401 = .ok (.aload_n 0, 1) := by decide +kernel
theorem dL_holds_402 : decode cL_holds 402 = .ok (.iload_n 3, 1) := by decide +kernel
theorem dL_holds_403 : decode cL_holds 403 = .ok (.invokestatic 116, 3) := by decide +kernel
theorem dL_holds_406 : decode cL_holds 406 = .ok (.aload_n 0, 1) := by decide +kernel
theorem dL_holds_407 : decode cL_holds 407 = .ok (.invokevirtual 79, 3) := by decide +kernel
theorem dL_holds_410 : decode cL_holds 410 = .ok (.if_icmp .ne 47, 3) := by decide +kernel
theorem dL_holds_413 : decode cL_holds 413 = .ok (.aload_n 0, 1) := by decide +kernel
theorem dL_holds_414 : decode cL_holds 414 = .ok (.iload 9, 2) := by decide +kernel
theorem dL_holds_416 : decode cL_holds 416 = .ok (.invokestatic 119, 3) := by decide +kernel
theorem dL_holds_419 : decode cL_holds 419 = .ok (.iload 10, 2) := by decide +kernel
theorem dL_holds_421 : decode cL_holds 421 = .ok (.if_icmp .ne 36, 3) := by decide +kernel
theorem dL_holds_424 : decode cL_holds 424 = .ok (.aload_n 0, 1) := by decide +kernel
theorem dL_holds_425 : decode cL_holds 425 = .ok (.invokevirtual 79, 3) := by decide +kernel
theorem dL_holds_428 : decode cL_holds 428 = .ok (.iload 7, 2) := by decide +kernel
theorem dL_holds_430 : decode cL_holds 430 = .ok (.if_icmp .ne 27, 3) := by decide +kernel
theorem dL_holds_433 : decode cL_holds 433 = .ok (.aload_n 0, 1) := by decide +kernel
theorem dL_holds_434 : decode cL_holds 434 = .ok (.iload_n 3, 1) := by decide +kernel
theorem dL_holds_435 : decode cL_holds 435 = .ok (.iload_n 1, 1) := by decide +kernel
theorem dL_holds_436 : decode cL_holds 436 = .ok (.iconst 4, 1) := by decide +kernel
theorem dL_holds_437 : decode cL_holds 437 = .ok (.irem, 1) := by decide +kernel
theorem dL_holds_438 : decode cL_holds 438 = .ok (.invokestatic 127, 3) := by decide +kernel
theorem dL_holds_441 : decode cL_holds 441 = .ok (.ifCond .le 16, 3) := by decide +kernel
theorem dL_holds_444 : decode cL_holds 444 = .ok (.aload_n 0, 1) := by decide +kernel
theorem dL_holds_445 : decode cL_holds 445 = .ok (.iload_n 3, 1) := by decide +kernel
theorem dL_holds_446 : decode cL_holds 446 = .ok (.invokestatic 113, 3) := by decide +kernel
theorem dL_holds_449 : decode cL_holds 449 = .ok (.iconst (-1), 1) := by decide +kernel
theorem dL_holds_450 : decode cL_holds 450 = .ok (.if_icmp .ne 7, 3) := by decide +kernel
theorem dL_holds_453 : decode cL_holds 453 = .ok (.iconst 1, 1) := by decide +kernel
theorem dL_holds_454 : decode cL_holds 454 = .ok (.goto 4, 3) := by decide +kernel
theorem dL_holds_457 : decode cL_holds 457 = .ok (.iconst 0, 1) := by decide +kernel
theorem dL_holds_458 : decode cL_holds 458 = .ok (.istore_n 2, 1) := by decide +kernel
theorem dL_holds_459 : decode cL_holds 459 = .ok (.goto 59, 3) := by decide +kernel
theorem dL_holds_462 : decode cL_holds 462 = .ok (.iload_n 2, 1) := by decide +kernel
theorem dL_holds_463 : decode cL_holds 463 = .ok (.ifCond .eq 55, 3) := by decide +kernel
theorem dL_holds_466 : decode cL_holds 466 = .ok (.iload 11, 2) := by decide +kernel
theorem dL_holds_468 : decode cL_holds 468 = .ok (.ifCond .lt 48, 3) := by decide +kernel
theorem dL_holds_471 : decode cL_holds 471 = .ok (.iload 11, 2) := by decide +kernel
theorem dL_holds_473 : decode cL_holds 473 = .ok (.iload 7, 2) := by decide +kernel
theorem dL_holds_475 : decode cL_holds 475 = .ok (.if_icmp .gt 41, 3) := by decide +kernel
theorem dL_holds_478 : decode cL_holds 478 = .ok (.aload_n 0, 1) := by decide +kernel
theorem dL_holds_479 : decode cL_holds 479 = .ok (.iload_n 3, 1) := by decide +kernel
theorem dL_holds_480 : decode cL_holds 480 = .ok (.iconst 3, 1) := by decide +kernel
theorem dL_holds_481 : decode cL_holds 481 = .ok (.invokestatic 127, 3) := by decide +kernel
theorem dL_holds_484 : decode cL_holds 484 = .ok (.ldc 18, 2) := by decide +kernel
theorem dL_holds_486 : decode cL_holds 486 = .ok (.if_icmp .ne 30, 3) := by decide +kernel
theorem dL_holds_489 : decode cL_holds 489 = .ok (.aload_n 0, 1) := by decide +kernel
theorem dL_holds_490 : decode cL_holds 490 = .ok (.iload 9, 2) := by decide +kernel
theorem dL_holds_492 : decode cL_holds 492 = .ok (.invokestatic 121, 3) := by decide +kernel
theorem dL_holds_495 : decode cL_holds 495 = .ok (.iconst 1, 1) := by decide +kernel
theorem dL_holds_496 : decode cL_holds 496 = .ok (.iload 10, 2) := by decide +kernel
theorem dL_holds_498 : decode cL_holds 498 = .ok (.isub, 1) := by decide +kernel
theorem dL_holds_499 : decode cL_holds 499 = .ok (.if_icmp .ne 17, 3) := by decide +kernel
theorem dL_holds_502 : decode cL_holds 502 = .ok (.aload_n 0, 1) := by decide +kernel
theorem dL_holds_503 : decode cL_holds 503 = .ok (.iload_n 3, 1) := by decide +kernel
theorem dL_holds_504 : decode cL_holds 504 = .ok (.iconst 3, 1) := by decide +kernel
theorem dL_holds_505 : decode cL_holds 505 = .ok (.invokestatic 130, 3) := by decide +kernel
theorem dL_holds_508 : decode cL_holds 508 = .ok (.iconst (-1), 1) := by decide +kernel
theorem dL_holds_509 : decode cL_holds 509 = .ok (.if_icmp .ne 7, 3) := by decide +kernel
theorem dL_holds_512 : decode cL_holds 512 = .ok (.iconst 1, 1) := by decide +kernel
theorem dL_holds_513 : decode cL_holds 513 = .ok (.goto 4, 3) := by decide +kernel
theorem dL_holds_516 : decode cL_holds 516 = .ok (.iconst 0, 1) := by decide +kernel
theorem dL_holds_517 : decode cL_holds 517 = .ok (.istore_n 2, 1) := by decide +kernel
theorem dL_holds_518 : decode cL_holds 518 = .ok (.iinc 8 1, 3) := by decide +kernel
theorem dL_holds_521 : decode cL_holds 521 = .ok (.goto (-207), 3) := by decide +kernel
theorem dL_holds_524 : decode cL_holds 524 = .ok (.iload 7, 2) := by decide +kernel
theorem dL_holds_526 : decode cL_holds 526 = .ok (.ifCond .ne 7, 3) := by decide +kernel
theorem dL_holds_529 : decode cL_holds 529 = .ok (.iconst 0, 1) := by decide +kernel
theorem dL_holds_530 : decode cL_holds 530 = .ok (.goto 10, 3) := by decide +kernel
theorem dL_holds_533 : decode cL_holds 533 = .ok (.iload_n 1, 1) := by decide +kernel
theorem dL_holds_534 : decode cL_holds 534 = .ok (.bipush 9, 2) := by decide +kernel
theorem dL_holds_536 : decode cL_holds 536 = .ok (.idiv, 1) := by decide +kernel
theorem dL_holds_537 : decode cL_holds 537 = .ok (.iload 7, 2) := by decide +kernel
theorem dL_holds_539 : decode cL_holds 539 = .ok (.irem, 1) := by decide +kernel
theorem dL_holds_540 : decode cL_holds 540 = .ok (.istore 8, 2) := by decide +kernel
theorem dL_holds_542 : decode cL_holds 542 = .ok (.iload_n 2, 1) := by decide +kernel
theorem dL_holds_543 : decode cL_holds 543 = .ok (.ifCond .eq 50, 3) := by decide +kernel
theorem dL_holds_546 : decode cL_holds 546 = .ok (.iload 7, 2) := by decide +kernel
theorem dL_holds_548 : decode cL_holds 548 = .ok (.ifCond .eq 41, 3) := by decide +kernel
theorem dL_holds_551 : decode cL_holds 551 = .ok (.aload_n 0, 1) := by decide +kernel
theorem dL_holds_552 : decode cL_holds 552 = .ok (.iload 8, 2) := by decide +kernel
theorem dL_holds_554 : decode cL_holds 554 = .ok (.invokestatic 124, 3) := by decide +kernel
theorem dL_holds_557 : decode cL_holds 557 = .ok (.iload 7, 2) := by decide +kernel
theorem dL_holds_559 : decode cL_holds 559 = .ok (.iload 8, 2) := by decide +kernel
theorem dL_holds_561 : decode cL_holds 561 = .ok (.isub, 1) := by decide +kernel
theorem dL_holds_562 : decode cL_holds 562 = .ok (.if_icmp .ne 31, 3) := by decide +kernel
theorem dL_holds_565 : decode cL_holds 565 = .ok (.aload_n 0, 1) := by decide +kernel
theorem dL_holds_566 : decode cL_holds 566 = .ok (.iload_n 3, 1) := by decide +kernel
theorem dL_holds_567 : decode cL_holds 567 = .ok (.iconst 3, 1) := by decide +kernel
theorem dL_holds_568 : decode cL_holds 568 = .ok (.invokestatic 130, 3) := by decide +kernel
theorem dL_holds_571 : decode cL_holds 571 = .ok (.iload 8, 2) := by decide +kernel
theorem dL_holds_573 : decode cL_holds 573 = .ok (.if_icmp .ne 20, 3) := by decide +kernel
theorem dL_holds_576 : decode cL_holds 576 = .ok (.aload_n 0, 1) := by decide +kernel
theorem dL_holds_577 : decode cL_holds 577 = .ok (.iload_n 3, 1) := by decide +kernel
theorem dL_holds_578 : decode cL_holds 578 = .ok (.iload_n 1, 1) := by decide +kernel
theorem dL_holds_579 : decode cL_holds 579 = .ok (.iconst 4, 1) := by decide +kernel
theorem dL_holds_580 : decode cL_holds 580 = .ok (.irem, 1) := by decide +kernel
theorem dL_holds_581 : decode cL_holds 581 = .ok (.invokestatic 130, 3) := by decide +kernel
theorem dL_holds_584 : decode cL_holds 584 = .ok (.iload 8, 2) := by decide +kernel
theorem dL_holds_586 : decode cL_holds 586 = .ok (.if_icmp .ne 7, 3) := by decide +kernel
theorem dL_holds_589 : decode cL_holds 589 = .ok (.iconst 1, 1) := by decide +kernel
theorem dL_holds_590 : decode cL_holds 590 = .ok (.goto 4, 3) := by decide +kernel
theorem dL_holds_593 : decode cL_holds 593 = .ok (.iconst 0, 1) := by decide +kernel
theorem dL_holds_594 : decode cL_holds 594 = .ok (.istore_n 2, 1) := by decide +kernel
theorem dL_holds_595 : decode cL_holds 595 = .ok (.iload_n 2, 1) := by decide +kernel
theorem dL_holds_596 : decode cL_holds 596 = .ok (.ireturn, 1) := by decide +kernel
def wb_L_holds_540 (kd : Nat → Nat) (post : Int32 → Mm → Prop)  (v0 : Nat) (v1 : Int32) (v2 : Int32) (v3 : Int32) (v7 : Int32) (s0 : Int32) (μ : Mm) (cz : Nat) : Prop := (v2 = 0 → (cz ≤ 1000 ∧ post (0 : Int32) μ)) ∧ (¬ v2 = 0 → ((v7 = 0 → (cz ≤ 1000 ∧ post (1 : Int32) μ)) ∧ (¬ v7 = 0 → (cz + 1 ≤ 1000 ∧ wp_L_cuts v0 s0 μ (fun r249 μ252 => (¬ r249 = (v7 - s0) → (cz + 1 ≤ 1000 ∧ post (0 : Int32) μ252)) ∧ (r249 = (v7 - s0) → (cz + 3 ≤ 1000 ∧ wp_L_fault kd v0 v3 (3 : Int32) μ252 (fun r256 μ259 => (¬ r256 = s0 → (cz + 3 ≤ 1000 ∧ post (0 : Int32) μ259)) ∧ (r256 = s0 → (cz + 5 ≤ 1000 ∧ wp_L_fault kd v0 v3 (v1 - v1 / (4 : Int32) * (4 : Int32)) μ259 (fun r263 μ266 => (¬ r263 = s0 → (cz + 5 ≤ 1000 ∧ post (0 : Int32) μ266)) ∧ (r263 = s0 → (cz + 5 ≤ 1000 ∧ post (1 : Int32) μ266)))))))))))))
set_option maxHeartbeats 4000000 in
set_option maxRecDepth 100000 in
theorem tb_L_holds_540 {p : Program} {l : Launch} {e : Env} {s : State} {m : MethodId} {args : Array Value} {below : List Frame} {meth : Method} {c : Code} {G : gG} {A : Nat → Prop} {kd : Nat → Nat} {post : Int32 → Mm → Prop} (X : Cx p l s m args meth c cL_holds 12 (some .boolean) RL G A) (hl0 : l.stackTraces = false) (hkd : G.2.2 = kd) : ∀ (v0 : Nat) (v1 : Int32) (v2 : Int32) (v3 : Int32) (v7 : Int32) (s0 : Int32) (μ : Mm) (cz : Nat), wb_L_holds_540 kd post v0 v1 v2 v3 v7 s0 μ cz → J p l e (rmL (79) 1000 8000) s m args below meth c 12 G A (MQ below (QG G A (pI post)) args s 1000 8000 A) cz (8 * cz) 540 [(0, .ref v0), (1, .int v1), (2, .int v2), (3, .int v3), (7, .int v7)] [.int s0] μ := by
  intro v0 v1 v2 v3 v7 s0 μ cz hw
  unfold wb_L_holds_540 at hw
  refine j_istore X (pc' := 542) (i := 8) (loc' := [(8, .int s0), (0, .ref v0), (1, .int v1), (2, .int v2), (3, .int v3), (7, .int v7)]) dL_holds_540 rfl (by decide) rfl ?_
  refine j_iload_n X (pc' := 543) (kk := 2) (i := 2) 3 rfl rfl dL_holds_542 rfl ?_
  refine j_if_eq X (pc' := 546) (tgt := 593) dL_holds_543 rfl (by decide) (fun c244 => ?_) (fun c244 => ?_)
  · have hw1 := hw.1 c244
    refine j_iconst X (pc' := 594) (v := 0) (by decide) dL_holds_593 rfl ?_
    refine j_istore_n X (pc' := 595) (kk := 2) (i := 2) (loc' := [(2, .int ((0 : Int32))), (8, .int s0), (0, .ref v0), (1, .int v1), (3, .int v3), (7, .int v7)]) dL_holds_594 rfl rfl (by decide) rfl ?_
    refine j_iload_n X (pc' := 596) (kk := 2) (i := 2) 0 rfl rfl dL_holds_595 rfl ?_
    obtain ⟨hz245, hw2⟩ := hw1
    exact j_zret X (Or.inl rfl) ⟨_, rfl, hw2⟩ (by omega) (by omega) dL_holds_596
  · have hw3 := hw.2 c244
    refine j_iload X (pc' := 548) (i := 7) 5 rfl dL_holds_546 rfl ?_
    refine j_if_eq X (pc' := 551) (tgt := 589) dL_holds_548 rfl (by decide) (fun c246 => ?_) (fun c246 => ?_)
    · have hw4 := hw3.1 c246
      refine j_iconst X (pc' := 590) (v := 1) (by decide) dL_holds_589 rfl ?_
      refine j_goto X (tgt := 594) dL_holds_590 (by decide) ?_
      refine j_istore_n X (pc' := 595) (kk := 2) (i := 2) (loc' := [(2, .int ((1 : Int32))), (8, .int s0), (0, .ref v0), (1, .int v1), (3, .int v3), (7, .int v7)]) dL_holds_594 rfl rfl (by decide) rfl ?_
      refine j_iload_n X (pc' := 596) (kk := 2) (i := 2) 0 rfl rfl dL_holds_595 rfl ?_
      obtain ⟨hz247, hw5⟩ := hw4
      exact j_zret X (Or.inr rfl) ⟨_, rfl, hw5⟩ (by omega) (by omega) dL_holds_596
    · have hw6 := hw3.2 c246
      refine j_aload_n X (pc' := 552) (kk := 0) (i := 0) 1 rfl rfl dL_holds_551 rfl ?_
      refine j_iload X (pc' := 554) (i := 8) 0 rfl dL_holds_552 rfl ?_
      obtain ⟨hz248, hw7⟩ := hw6
      refine j_callSWi X (pc' := 557) (cells' := cz + 1) (slots' := 8 * (cz) + 6) (As := [.ref v0, .int s0]) (rest := []) (c_L_cuts l G A hl0 v0 s0 μ _ hw7) (gk_L_cuts wt_3_72) hd_L_cuts (rmL_fit (k1 := 2) (k := 79) (by omega) (by decide)) rfl rfl (Nat.le_of_ble_eq_true rfl) dL_holds_554 rfl ⟨by show _ ≤ 1000; omega, by show _ ≤ 8000; omega⟩ rfl rfl (fun r249 μ252 hw8 => ?_)
      refine j_widen (k1 := cz + 1) (n1 := 8 * (cz + 1)) (by omega) (by omega) ?_
      refine j_iload X (pc' := 559) (i := 7) 5 rfl dL_holds_557 rfl ?_
      refine j_iload X (pc' := 561) (i := 8) 0 rfl dL_holds_559 rfl ?_
      refine j_isub X (pc' := 562) dL_holds_561 rfl ?_
      refine j_icmp_ne X (pc' := 565) (tgt := 593) dL_holds_562 rfl (by decide) (fun c253 => ?_) (fun c253 => ?_)
      · have hw9 := hw8.1 c253
        refine j_iconst X (pc' := 594) (v := 0) (by decide) dL_holds_593 rfl ?_
        refine j_istore_n X (pc' := 595) (kk := 2) (i := 2) (loc' := [(2, .int ((0 : Int32))), (8, .int s0), (0, .ref v0), (1, .int v1), (3, .int v3), (7, .int v7)]) dL_holds_594 rfl rfl (by decide) rfl ?_
        refine j_iload_n X (pc' := 596) (kk := 2) (i := 2) 0 rfl rfl dL_holds_595 rfl ?_
        obtain ⟨hz254, hw10⟩ := hw9
        exact j_zret X (Or.inl rfl) ⟨_, rfl, hw10⟩ (by omega) (by omega) dL_holds_596
      · have hw11 := hw8.2 c253
        refine j_aload_n X (pc' := 566) (kk := 0) (i := 0) 1 rfl rfl dL_holds_565 rfl ?_
        refine j_iload_n X (pc' := 567) (kk := 3) (i := 3) 4 rfl rfl dL_holds_566 rfl ?_
        refine j_iconst X (pc' := 568) (v := 3) (by decide) dL_holds_567 rfl ?_
        obtain ⟨hz255, hw12⟩ := hw11
        refine j_callSWi X (pc' := 571) (cells' := cz + 1 + 2) (slots' := 8 * (cz + 1) + 12) (As := [.ref v0, .int v3, .int ((3 : Int32))]) (rest := []) (c_L_fault l G A hl0 kd hkd v0 v3 (3 : Int32) μ252 _ hw12) (gk_L_fault wt_3_138) hd_L_fault (rmL_fit (k1 := 78) (k := 79) (by omega) (by decide)) rfl rfl (Nat.le_of_ble_eq_true rfl) dL_holds_568 rfl ⟨by show _ ≤ 1000; omega, by show _ ≤ 8000; omega⟩ rfl rfl (fun r256 μ259 hw13 => ?_)
        refine j_widen (k1 := cz + 3) (n1 := 8 * (cz + 3)) (by omega) (by omega) ?_
        refine j_iload X (pc' := 573) (i := 8) 0 rfl dL_holds_571 rfl ?_
        refine j_icmp_ne X (pc' := 576) (tgt := 593) dL_holds_573 rfl (by decide) (fun c260 => ?_) (fun c260 => ?_)
        · have hw14 := hw13.1 c260
          refine j_iconst X (pc' := 594) (v := 0) (by decide) dL_holds_593 rfl ?_
          refine j_istore_n X (pc' := 595) (kk := 2) (i := 2) (loc' := [(2, .int ((0 : Int32))), (8, .int s0), (0, .ref v0), (1, .int v1), (3, .int v3), (7, .int v7)]) dL_holds_594 rfl rfl (by decide) rfl ?_
          refine j_iload_n X (pc' := 596) (kk := 2) (i := 2) 0 rfl rfl dL_holds_595 rfl ?_
          obtain ⟨hz261, hw15⟩ := hw14
          exact j_zret X (Or.inl rfl) ⟨_, rfl, hw15⟩ (by omega) (by omega) dL_holds_596
        · have hw16 := hw13.2 c260
          refine j_aload_n X (pc' := 577) (kk := 0) (i := 0) 1 rfl rfl dL_holds_576 rfl ?_
          refine j_iload_n X (pc' := 578) (kk := 3) (i := 3) 4 rfl rfl dL_holds_577 rfl ?_
          refine j_iload_n X (pc' := 579) (kk := 1) (i := 1) 2 rfl rfl dL_holds_578 rfl ?_
          refine j_iconst X (pc' := 580) (v := 4) (by decide) dL_holds_579 rfl ?_
          refine j_irem X (pc' := 581) (by decide) dL_holds_580 rfl ?_
          obtain ⟨hz262, hw17⟩ := hw16
          refine j_callSWi X (pc' := 584) (cells' := cz + 3 + 2) (slots' := 8 * (cz + 3) + 12) (As := [.ref v0, .int v3, .int (v1 - v1 / (4 : Int32) * (4 : Int32))]) (rest := []) (c_L_fault l G A hl0 kd hkd v0 v3 (v1 - v1 / (4 : Int32) * (4 : Int32)) μ259 _ hw17) (gk_L_fault wt_3_138) hd_L_fault (rmL_fit (k1 := 78) (k := 79) (by omega) (by decide)) rfl rfl (Nat.le_of_ble_eq_true rfl) dL_holds_581 rfl ⟨by show _ ≤ 1000; omega, by show _ ≤ 8000; omega⟩ rfl rfl (fun r263 μ266 hw18 => ?_)
          refine j_widen (k1 := cz + 5) (n1 := 8 * (cz + 5)) (by omega) (by omega) ?_
          refine j_iload X (pc' := 586) (i := 8) 0 rfl dL_holds_584 rfl ?_
          refine j_icmp_ne X (pc' := 589) (tgt := 593) dL_holds_586 rfl (by decide) (fun c267 => ?_) (fun c267 => ?_)
          · have hw19 := hw18.1 c267
            refine j_iconst X (pc' := 594) (v := 0) (by decide) dL_holds_593 rfl ?_
            refine j_istore_n X (pc' := 595) (kk := 2) (i := 2) (loc' := [(2, .int ((0 : Int32))), (8, .int s0), (0, .ref v0), (1, .int v1), (3, .int v3), (7, .int v7)]) dL_holds_594 rfl rfl (by decide) rfl ?_
            refine j_iload_n X (pc' := 596) (kk := 2) (i := 2) 0 rfl rfl dL_holds_595 rfl ?_
            obtain ⟨hz268, hw20⟩ := hw19
            exact j_zret X (Or.inl rfl) ⟨_, rfl, hw20⟩ (by omega) (by omega) dL_holds_596
          · have hw21 := hw18.2 c267
            refine j_iconst X (pc' := 590) (v := 1) (by decide) dL_holds_589 rfl ?_
            refine j_goto X (tgt := 594) dL_holds_590 (by decide) ?_
            refine j_istore_n X (pc' := 595) (kk := 2) (i := 2) (loc' := [(2, .int ((1 : Int32))), (8, .int s0), (0, .ref v0), (1, .int v1), (3, .int v3), (7, .int v7)]) dL_holds_594 rfl rfl (by decide) rfl ?_
            refine j_iload_n X (pc' := 596) (kk := 2) (i := 2) 0 rfl rfl dL_holds_595 rfl ?_
            obtain ⟨hz269, hw22⟩ := hw21
            exact j_zret X (Or.inr rfl) ⟨_, rfl, hw22⟩ (by omega) (by omega) dL_holds_596
def wb_L_holds_524 (kd : Nat → Nat) (post : Int32 → Mm → Prop)  (v0 : Nat) (v1 : Int32) (v2 : Int32) (v3 : Int32) (v7 : Int32) (μ : Mm) (cz : Nat) : Prop := (¬ v7 = 0 → (¬ v7 = 0 ∧ wb_L_holds_540 kd post v0 v1 v2 v3 v7 ((v1 / (9 : Int32)) - (v1 / (9 : Int32)) / v7 * v7) μ cz)) ∧ (v7 = 0 → (wb_L_holds_540 kd post v0 v1 v2 v3 v7 (0 : Int32) μ cz))
set_option maxHeartbeats 4000000 in
set_option maxRecDepth 100000 in
theorem tb_L_holds_524 {p : Program} {l : Launch} {e : Env} {s : State} {m : MethodId} {args : Array Value} {below : List Frame} {meth : Method} {c : Code} {G : gG} {A : Nat → Prop} {kd : Nat → Nat} {post : Int32 → Mm → Prop} (X : Cx p l s m args meth c cL_holds 12 (some .boolean) RL G A) (hl0 : l.stackTraces = false) (hkd : G.2.2 = kd) : ∀ (v0 : Nat) (v1 : Int32) (v2 : Int32) (v3 : Int32) (v7 : Int32) (μ : Mm) (cz : Nat), wb_L_holds_524 kd post v0 v1 v2 v3 v7 μ cz → J p l e (rmL (79) 1000 8000) s m args below meth c 12 G A (MQ below (QG G A (pI post)) args s 1000 8000 A) cz (8 * cz) 524 [(0, .ref v0), (1, .int v1), (2, .int v2), (3, .int v3), (7, .int v7)] [] μ := by
  intro v0 v1 v2 v3 v7 μ cz hw
  unfold wb_L_holds_524 at hw
  refine j_iload X (pc' := 526) (i := 7) 4 rfl dL_holds_524 rfl ?_
  refine j_if_ne X (pc' := 529) (tgt := 533) dL_holds_526 rfl (by decide) (fun c193 => ?_) (fun c193 => ?_)
  · have hw1 := hw.1 c193
    refine j_iload_n X (pc' := 534) (kk := 1) (i := 1) 1 rfl rfl dL_holds_533 rfl ?_
    refine j_bipush X (pc' := 536) (v := 9) (by decide) dL_holds_534 rfl ?_
    refine j_idiv X (pc' := 537) (by decide) dL_holds_536 rfl ?_
    refine j_iload X (pc' := 539) (i := 7) 4 rfl dL_holds_537 rfl ?_
    obtain ⟨h194, hw2⟩ := hw1
    refine j_irem X (pc' := 540) h194 dL_holds_539 rfl ?_
    exact tb_L_holds_540 X hl0 hkd _ _ _ _ _ _ _ _ hw2
  · have hw3 := hw.2 c193
    refine j_iconst X (pc' := 530) (v := 0) (by decide) dL_holds_529 rfl ?_
    refine j_goto X (tgt := 540) dL_holds_530 (by decide) ?_
    exact tb_L_holds_540 X hl0 hkd _ _ _ _ _ _ _ _ hw3
def wb_L_holds_517 (kd : Nat → Nat) (post : Int32 → Mm → Prop) (K314 : Nat → Int32 → Int32 → Int32 → Int32 → Int32 → Mm → Nat → Prop) (v0 : Nat) (v1 : Int32) (v3 : Int32) (v7 : Int32) (v8 : Int32) (s0 : Int32) (μ : Mm) (cz : Nat) : Prop := K314 v0 v1 s0 v3 v7 (v8 + 1) μ cz
set_option maxHeartbeats 4000000 in
set_option maxRecDepth 100000 in
theorem tb_L_holds_517 {p : Program} {l : Launch} {e : Env} {s : State} {m : MethodId} {args : Array Value} {below : List Frame} {meth : Method} {c : Code} {G : gG} {A : Nat → Prop} {kd : Nat → Nat} {post : Int32 → Mm → Prop} {K314 : Nat → Int32 → Int32 → Int32 → Int32 → Int32 → Mm → Nat → Prop} (X : Cx p l s m args meth c cL_holds 12 (some .boolean) RL G A) (hl0 : l.stackTraces = false) (hkd : G.2.2 = kd) (hK314 : ∀ (v0 : Nat) (v1 : Int32) (v2 : Int32) (v3 : Int32) (v7 : Int32) (v8 : Int32) (μ : Mm) (cz : Nat), K314 v0 v1 v2 v3 v7 v8 μ cz → J p l e (rmL (79) 1000 8000) s m args below meth c 12 G A (MQ below (QG G A (pI post)) args s 1000 8000 A) cz (8 * cz) 314 [(0, .ref v0), (1, .int v1), (2, .int v2), (3, .int v3), (7, .int v7), (8, .int v8)] [] μ) : ∀ (v0 : Nat) (v1 : Int32) (v3 : Int32) (v7 : Int32) (v8 : Int32) (s0 : Int32) (μ : Mm) (cz : Nat), wb_L_holds_517 kd post K314 v0 v1 v3 v7 v8 s0 μ cz → J p l e (rmL (79) 1000 8000) s m args below meth c 12 G A (MQ below (QG G A (pI post)) args s 1000 8000 A) cz (8 * cz) 517 [(0, .ref v0), (1, .int v1), (3, .int v3), (7, .int v7), (8, .int v8)] [.int s0] μ := by
  intro v0 v1 v3 v7 v8 s0 μ cz hw
  unfold wb_L_holds_517 at hw
  refine j_istore_n X (pc' := 518) (kk := 2) (i := 2) (loc' := [(2, .int s0), (0, .ref v0), (1, .int v1), (3, .int v3), (7, .int v7), (8, .int v8)]) dL_holds_517 rfl rfl (by decide) rfl ?_
  refine j_iinc X (pc' := 521) (i := 8) (v := v8 + 1) (loc' := [(8, .int (v8 + 1)), (2, .int s0), (0, .ref v0), (1, .int v1), (3, .int v3), (7, .int v7)]) 5 rfl rfl dL_holds_518 rfl (by decide) rfl ?_
  refine j_goto X (tgt := 314) dL_holds_521 (by decide) ?_
  refine j_loc [2, 3, 1, 4, 5, 0] rfl ?_
  exact hK314 _ _ _ _ _ _ _ _ hw
def wb_L_holds_516 (kd : Nat → Nat) (post : Int32 → Mm → Prop) (K314 : Nat → Int32 → Int32 → Int32 → Int32 → Int32 → Mm → Nat → Prop) (v0 : Nat) (v1 : Int32) (v3 : Int32) (v7 : Int32) (v8 : Int32) (μ : Mm) (cz : Nat) : Prop := wb_L_holds_517 kd post K314 v0 v1 v3 v7 v8 (0 : Int32) μ cz
set_option maxHeartbeats 4000000 in
set_option maxRecDepth 100000 in
theorem tb_L_holds_516 {p : Program} {l : Launch} {e : Env} {s : State} {m : MethodId} {args : Array Value} {below : List Frame} {meth : Method} {c : Code} {G : gG} {A : Nat → Prop} {kd : Nat → Nat} {post : Int32 → Mm → Prop} {K314 : Nat → Int32 → Int32 → Int32 → Int32 → Int32 → Mm → Nat → Prop} (X : Cx p l s m args meth c cL_holds 12 (some .boolean) RL G A) (hl0 : l.stackTraces = false) (hkd : G.2.2 = kd) (hK314 : ∀ (v0 : Nat) (v1 : Int32) (v2 : Int32) (v3 : Int32) (v7 : Int32) (v8 : Int32) (μ : Mm) (cz : Nat), K314 v0 v1 v2 v3 v7 v8 μ cz → J p l e (rmL (79) 1000 8000) s m args below meth c 12 G A (MQ below (QG G A (pI post)) args s 1000 8000 A) cz (8 * cz) 314 [(0, .ref v0), (1, .int v1), (2, .int v2), (3, .int v3), (7, .int v7), (8, .int v8)] [] μ) : ∀ (v0 : Nat) (v1 : Int32) (v3 : Int32) (v7 : Int32) (v8 : Int32) (μ : Mm) (cz : Nat), wb_L_holds_516 kd post K314 v0 v1 v3 v7 v8 μ cz → J p l e (rmL (79) 1000 8000) s m args below meth c 12 G A (MQ below (QG G A (pI post)) args s 1000 8000 A) cz (8 * cz) 516 [(0, .ref v0), (1, .int v1), (3, .int v3), (7, .int v7), (8, .int v8)] [] μ := by
  intro v0 v1 v3 v7 v8 μ cz hw
  unfold wb_L_holds_516 at hw
  refine j_iconst X (pc' := 517) (v := 0) (by decide) dL_holds_516 rfl ?_
  exact tb_L_holds_517 X hl0 hkd hK314 _ _ _ _ _ _ _ _ hw
def wb_L_holds_462 (kd : Nat → Nat) (post : Int32 → Mm → Prop) (K314 : Nat → Int32 → Int32 → Int32 → Int32 → Int32 → Mm → Nat → Prop) (v0 : Nat) (v1 : Int32) (v2 : Int32) (v3 : Int32) (v7 : Int32) (v8 : Int32) (v9 : Int32) (v10 : Int32) (v11 : Int32) (μ : Mm) (cz : Nat) : Prop := (v2 = 0 → (K314 v0 v1 v2 v3 v7 (v8 + 1) μ cz)) ∧ (¬ v2 = 0 → ((v11 < 0 → (wb_L_holds_516 kd post K314 v0 v1 v3 v7 v8 μ cz)) ∧ (¬ v11 < 0 → ((v7 < v11 → (wb_L_holds_516 kd post K314 v0 v1 v3 v7 v8 μ cz)) ∧ (¬ v7 < v11 → (cz + 3 ≤ 1000 ∧ wp_L_reads kd v0 v3 (3 : Int32) μ (fun r274 μ277 => (¬ r274 = (-2000000003 : Int32) → (wb_L_holds_516 kd post K314 v0 v1 v3 v7 v8 μ277 (cz + 3))) ∧ (r274 = (-2000000003 : Int32) → (cz + 4 ≤ 1000 ∧ wp_L_flips v0 v9 μ277 (fun r280 μ283 => (¬ r280 = ((1 : Int32) - v10) → (wb_L_holds_516 kd post K314 v0 v1 v3 v7 v8 μ283 (cz + 4))) ∧ (r280 = ((1 : Int32) - v10) → (cz + 6 ≤ 1000 ∧ wp_L_fault kd v0 v3 (3 : Int32) μ283 (fun r286 μ289 => (¬ r286 = (-1 : Int32) → (wb_L_holds_516 kd post K314 v0 v1 v3 v7 v8 μ289 (cz + 6))) ∧ (r286 = (-1 : Int32) → (wb_L_holds_517 kd post K314 v0 v1 v3 v7 v8 (1 : Int32) μ289 (cz + 6))))))))))))))))
set_option maxHeartbeats 4000000 in
set_option maxRecDepth 100000 in
theorem tb_L_holds_462 {p : Program} {l : Launch} {e : Env} {s : State} {m : MethodId} {args : Array Value} {below : List Frame} {meth : Method} {c : Code} {G : gG} {A : Nat → Prop} {kd : Nat → Nat} {post : Int32 → Mm → Prop} {K314 : Nat → Int32 → Int32 → Int32 → Int32 → Int32 → Mm → Nat → Prop} (X : Cx p l s m args meth c cL_holds 12 (some .boolean) RL G A) (hl0 : l.stackTraces = false) (hkd : G.2.2 = kd) (hK314 : ∀ (v0 : Nat) (v1 : Int32) (v2 : Int32) (v3 : Int32) (v7 : Int32) (v8 : Int32) (μ : Mm) (cz : Nat), K314 v0 v1 v2 v3 v7 v8 μ cz → J p l e (rmL (79) 1000 8000) s m args below meth c 12 G A (MQ below (QG G A (pI post)) args s 1000 8000 A) cz (8 * cz) 314 [(0, .ref v0), (1, .int v1), (2, .int v2), (3, .int v3), (7, .int v7), (8, .int v8)] [] μ) : ∀ (v0 : Nat) (v1 : Int32) (v2 : Int32) (v3 : Int32) (v7 : Int32) (v8 : Int32) (v9 : Int32) (v10 : Int32) (v11 : Int32) (μ : Mm) (cz : Nat), wb_L_holds_462 kd post K314 v0 v1 v2 v3 v7 v8 v9 v10 v11 μ cz → J p l e (rmL (79) 1000 8000) s m args below meth c 12 G A (MQ below (QG G A (pI post)) args s 1000 8000 A) cz (8 * cz) 462 [(0, .ref v0), (1, .int v1), (2, .int v2), (3, .int v3), (7, .int v7), (8, .int v8), (9, .int v9), (10, .int v10), (11, .int v11)] [] μ := by
  intro v0 v1 v2 v3 v7 v8 v9 v10 v11 μ cz hw
  unfold wb_L_holds_462 at hw
  refine j_iload_n X (pc' := 463) (kk := 2) (i := 2) 2 rfl rfl dL_holds_462 rfl ?_
  refine j_if_eq X (pc' := 466) (tgt := 518) dL_holds_463 rfl (by decide) (fun c270 => ?_) (fun c270 => ?_)
  · have hw1 := hw.1 c270
    refine j_iinc X (pc' := 521) (i := 8) (v := v8 + 1) (loc' := [(8, .int (v8 + 1)), (0, .ref v0), (1, .int v1), (2, .int v2), (3, .int v3), (7, .int v7), (9, .int v9), (10, .int v10), (11, .int v11)]) 5 rfl rfl dL_holds_518 rfl (by decide) rfl ?_
    refine j_goto X (tgt := 314) dL_holds_521 (by decide) ?_
    refine j_loc [1, 2, 3, 4, 5, 0] rfl ?_
    exact hK314 _ _ _ _ _ _ _ _ hw1
  · have hw2 := hw.2 c270
    refine j_iload X (pc' := 468) (i := 11) 8 rfl dL_holds_466 rfl ?_
    refine j_if_lt X (pc' := 471) (tgt := 516) dL_holds_468 rfl (by decide) (fun c271 => ?_) (fun c271 => ?_)
    · have hw3 := hw2.1 c271
      refine j_loc [0, 1, 3, 4, 5] rfl ?_
      exact tb_L_holds_516 X hl0 hkd hK314 _ _ _ _ _ _ _ hw3
    · have hw4 := hw2.2 c271
      refine j_iload X (pc' := 473) (i := 11) 8 rfl dL_holds_471 rfl ?_
      refine j_iload X (pc' := 475) (i := 7) 4 rfl dL_holds_473 rfl ?_
      refine j_icmp_gt X (pc' := 478) (tgt := 516) dL_holds_475 rfl (by decide) (fun c272 => ?_) (fun c272 => ?_)
      · have hw5 := hw4.1 c272
        refine j_loc [0, 1, 3, 4, 5] rfl ?_
        exact tb_L_holds_516 X hl0 hkd hK314 _ _ _ _ _ _ _ hw5
      · have hw6 := hw4.2 c272
        refine j_aload_n X (pc' := 479) (kk := 0) (i := 0) 0 rfl rfl dL_holds_478 rfl ?_
        refine j_iload_n X (pc' := 480) (kk := 3) (i := 3) 3 rfl rfl dL_holds_479 rfl ?_
        refine j_iconst X (pc' := 481) (v := 3) (by decide) dL_holds_480 rfl ?_
        obtain ⟨hz273, hw7⟩ := hw6
        refine j_callSWi X (pc' := 484) (cells' := cz + 3) (slots' := 8 * (cz) + 18) (As := [.ref v0, .int v3, .int ((3 : Int32))]) (rest := []) (c_L_reads l G A hl0 kd hkd v0 v3 (3 : Int32) μ _ hw7) (gk_L_reads wt_3_81) hd_L_reads (rmL_fit (k1 := 78) (k := 79) (by omega) (by decide)) rfl rfl (Nat.le_of_ble_eq_true rfl) dL_holds_481 rfl ⟨by show _ ≤ 1000; omega, by show _ ≤ 8000; omega⟩ rfl rfl (fun r274 μ277 hw8 => ?_)
        refine j_widen (k1 := cz + 3) (n1 := 8 * (cz + 3)) (by omega) (by omega) ?_
        refine j_ldc X (pc' := 486) (v := (-2000000003 : Int32)) wt_2_112 dL_holds_484 rfl ?_
        refine j_icmp_ne X (pc' := 489) (tgt := 516) dL_holds_486 rfl (by decide) (fun c278 => ?_) (fun c278 => ?_)
        · have hw9 := hw8.1 c278
          refine j_loc [0, 1, 3, 4, 5] rfl ?_
          exact tb_L_holds_516 X hl0 hkd hK314 _ _ _ _ _ _ _ hw9
        · have hw10 := hw8.2 c278
          refine j_aload_n X (pc' := 490) (kk := 0) (i := 0) 0 rfl rfl dL_holds_489 rfl ?_
          refine j_iload X (pc' := 492) (i := 9) 6 rfl dL_holds_490 rfl ?_
          obtain ⟨hz279, hw11⟩ := hw10
          refine j_callSWi X (pc' := 495) (cells' := cz + 3 + 1) (slots' := 8 * (cz + 3) + 6) (As := [.ref v0, .int v9]) (rest := []) (c_L_flips l G A hl0 v0 v9 μ277 _ hw11) (gk_L_flips wt_3_64) hd_L_flips (rmL_fit (k1 := 3) (k := 79) (by omega) (by decide)) rfl rfl (Nat.le_of_ble_eq_true rfl) dL_holds_492 rfl ⟨by show _ ≤ 1000; omega, by show _ ≤ 8000; omega⟩ rfl rfl (fun r280 μ283 hw12 => ?_)
          refine j_widen (k1 := cz + 4) (n1 := 8 * (cz + 4)) (by omega) (by omega) ?_
          refine j_iconst X (pc' := 496) (v := 1) (by decide) dL_holds_495 rfl ?_
          refine j_iload X (pc' := 498) (i := 10) 7 rfl dL_holds_496 rfl ?_
          refine j_isub X (pc' := 499) dL_holds_498 rfl ?_
          refine j_icmp_ne X (pc' := 502) (tgt := 516) dL_holds_499 rfl (by decide) (fun c284 => ?_) (fun c284 => ?_)
          · have hw13 := hw12.1 c284
            refine j_loc [0, 1, 3, 4, 5] rfl ?_
            exact tb_L_holds_516 X hl0 hkd hK314 _ _ _ _ _ _ _ hw13
          · have hw14 := hw12.2 c284
            refine j_aload_n X (pc' := 503) (kk := 0) (i := 0) 0 rfl rfl dL_holds_502 rfl ?_
            refine j_iload_n X (pc' := 504) (kk := 3) (i := 3) 3 rfl rfl dL_holds_503 rfl ?_
            refine j_iconst X (pc' := 505) (v := 3) (by decide) dL_holds_504 rfl ?_
            obtain ⟨hz285, hw15⟩ := hw14
            refine j_callSWi X (pc' := 508) (cells' := cz + 4 + 2) (slots' := 8 * (cz + 4) + 12) (As := [.ref v0, .int v3, .int ((3 : Int32))]) (rest := []) (c_L_fault l G A hl0 kd hkd v0 v3 (3 : Int32) μ283 _ hw15) (gk_L_fault wt_3_138) hd_L_fault (rmL_fit (k1 := 78) (k := 79) (by omega) (by decide)) rfl rfl (Nat.le_of_ble_eq_true rfl) dL_holds_505 rfl ⟨by show _ ≤ 1000; omega, by show _ ≤ 8000; omega⟩ rfl rfl (fun r286 μ289 hw16 => ?_)
            refine j_widen (k1 := cz + 6) (n1 := 8 * (cz + 6)) (by omega) (by omega) ?_
            refine j_iconst X (pc' := 509) (v := (-1)) (by decide) dL_holds_508 rfl ?_
            refine j_icmp_ne X (pc' := 512) (tgt := 516) dL_holds_509 rfl (by decide) (fun c290 => ?_) (fun c290 => ?_)
            · have hw17 := hw16.1 c290
              refine j_loc [0, 1, 3, 4, 5] rfl ?_
              exact tb_L_holds_516 X hl0 hkd hK314 _ _ _ _ _ _ _ hw17
            · have hw18 := hw16.2 c290
              refine j_iconst X (pc' := 513) (v := 1) (by decide) dL_holds_512 rfl ?_
              refine j_goto X (tgt := 517) dL_holds_513 (by decide) ?_
              refine j_loc [0, 1, 3, 4, 5] rfl ?_
              exact tb_L_holds_517 X hl0 hkd hK314 _ _ _ _ _ _ _ _ hw18
def wb_L_holds_457 (kd : Nat → Nat) (post : Int32 → Mm → Prop) (K314 : Nat → Int32 → Int32 → Int32 → Int32 → Int32 → Mm → Nat → Prop) (v0 : Nat) (v1 : Int32) (v3 : Int32) (v7 : Int32) (v8 : Int32) (μ : Mm) (cz : Nat) : Prop := K314 v0 v1 (0 : Int32) v3 v7 (v8 + 1) μ cz
set_option maxHeartbeats 4000000 in
set_option maxRecDepth 100000 in
theorem tb_L_holds_457 {p : Program} {l : Launch} {e : Env} {s : State} {m : MethodId} {args : Array Value} {below : List Frame} {meth : Method} {c : Code} {G : gG} {A : Nat → Prop} {kd : Nat → Nat} {post : Int32 → Mm → Prop} {K314 : Nat → Int32 → Int32 → Int32 → Int32 → Int32 → Mm → Nat → Prop} (X : Cx p l s m args meth c cL_holds 12 (some .boolean) RL G A) (hl0 : l.stackTraces = false) (hkd : G.2.2 = kd) (hK314 : ∀ (v0 : Nat) (v1 : Int32) (v2 : Int32) (v3 : Int32) (v7 : Int32) (v8 : Int32) (μ : Mm) (cz : Nat), K314 v0 v1 v2 v3 v7 v8 μ cz → J p l e (rmL (79) 1000 8000) s m args below meth c 12 G A (MQ below (QG G A (pI post)) args s 1000 8000 A) cz (8 * cz) 314 [(0, .ref v0), (1, .int v1), (2, .int v2), (3, .int v3), (7, .int v7), (8, .int v8)] [] μ) : ∀ (v0 : Nat) (v1 : Int32) (v3 : Int32) (v7 : Int32) (v8 : Int32) (μ : Mm) (cz : Nat), wb_L_holds_457 kd post K314 v0 v1 v3 v7 v8 μ cz → J p l e (rmL (79) 1000 8000) s m args below meth c 12 G A (MQ below (QG G A (pI post)) args s 1000 8000 A) cz (8 * cz) 457 [(0, .ref v0), (1, .int v1), (3, .int v3), (7, .int v7), (8, .int v8)] [] μ := by
  intro v0 v1 v3 v7 v8 μ cz hw
  unfold wb_L_holds_457 at hw
  refine j_iconst X (pc' := 458) (v := 0) (by decide) dL_holds_457 rfl ?_
  refine j_istore_n X (pc' := 459) (kk := 2) (i := 2) (loc' := [(2, .int ((0 : Int32))), (0, .ref v0), (1, .int v1), (3, .int v3), (7, .int v7), (8, .int v8)]) dL_holds_458 rfl rfl (by decide) rfl ?_
  refine j_goto X (tgt := 518) dL_holds_459 (by decide) ?_
  refine j_iinc X (pc' := 521) (i := 8) (v := v8 + 1) (loc' := [(8, .int (v8 + 1)), (2, .int ((0 : Int32))), (0, .ref v0), (1, .int v1), (3, .int v3), (7, .int v7)]) 5 rfl rfl dL_holds_518 rfl (by decide) rfl ?_
  refine j_goto X (tgt := 314) dL_holds_521 (by decide) ?_
  refine j_loc [2, 3, 1, 4, 5, 0] rfl ?_
  exact hK314 _ _ _ _ _ _ _ _ hw
def wb_L_holds_372 (kd : Nat → Nat) (post : Int32 → Mm → Prop) (K314 : Nat → Int32 → Int32 → Int32 → Int32 → Int32 → Mm → Nat → Prop) (v0 : Nat) (v1 : Int32) (v3 : Int32) (v7 : Int32) (v8 : Int32) (v9 : Int32) (v10 : Int32) (v11 : Int32) (s0 : Int32) (μ : Mm) (cz : Nat) : Prop := (s0 = 0 → (wb_L_holds_462 kd post K314 v0 v1 s0 v3 v7 v8 v9 v10 v11 μ cz)) ∧ (¬ s0 = 0 → ((¬ v11 = (-1 : Int32) → (wb_L_holds_462 kd post K314 v0 v1 s0 v3 v7 v8 v9 v10 v11 μ cz)) ∧ (v11 = (-1 : Int32) → (cz + 3 ≤ 1000 ∧ wp_L_reads kd v0 v3 (3 : Int32) μ (fun r198 μ201 => (r198 ≤ 0 → (wb_L_holds_457 kd post K314 v0 v1 v3 v7 v8 μ201 (cz + 3))) ∧ (¬ r198 ≤ 0 → (cz + 4 ≤ 1000 ∧ wp_L_wrong kd v0 v3 μ201 (fun r204 μ207 => (¬ r204 = (-1 : Int32) → (wb_L_holds_457 kd post K314 v0 v1 v3 v7 v8 μ207 (cz + 4))) ∧ (r204 = (-1 : Int32) → (cz + 6 ≤ 1000 ∧ wp_L_writes kd v0 v3 μ207 (fun r210 μ213 => cz + 6 ≤ 1000 ∧ (∃ f217, μ213 v0 = some (.inl (5, f217))) ∧ wp_X6_bits v0 μ213 (fun r215 μ218 => (¬ r210 = r215 → (wb_L_holds_457 kd post K314 v0 v1 v3 v7 v8 μ218 (cz + 6))) ∧ (r210 = r215 → (cz + 7 ≤ 1000 ∧ wp_L_bit v0 v9 μ218 (fun r221 μ224 => (¬ r221 = v10 → (wb_L_holds_457 kd post K314 v0 v1 v3 v7 v8 μ224 (cz + 7))) ∧ (r221 = v10 → (cz + 7 ≤ 1000 ∧ (∃ f229, μ224 v0 = some (.inl (5, f229))) ∧ wp_X6_bits v0 μ224 (fun r227 μ230 => (¬ r227 = v7 → (wb_L_holds_457 kd post K314 v0 v1 v3 v7 v8 μ230 (cz + 7))) ∧ (r227 = v7 → (cz + 10 ≤ 1000 ∧ wp_L_reads kd v0 v3 (v1 - v1 / (4 : Int32) * (4 : Int32)) μ230 (fun r233 μ236 => (r233 ≤ 0 → (wb_L_holds_457 kd post K314 v0 v1 v3 v7 v8 μ236 (cz + 10))) ∧ (¬ r233 ≤ 0 → (cz + 11 ≤ 1000 ∧ wp_L_wrong kd v0 v3 μ236 (fun r239 μ242 => (¬ r239 = (-1 : Int32) → (wb_L_holds_457 kd post K314 v0 v1 v3 v7 v8 μ242 (cz + 11))) ∧ (r239 = (-1 : Int32) → (K314 v0 v1 (1 : Int32) v3 v7 (v8 + 1) μ242 (cz + 11)))))))))))))))))))))))))))
set_option maxHeartbeats 4000000 in
set_option maxRecDepth 100000 in
theorem tb_L_holds_372 {p : Program} {l : Launch} {e : Env} {s : State} {m : MethodId} {args : Array Value} {below : List Frame} {meth : Method} {c : Code} {G : gG} {A : Nat → Prop} {kd : Nat → Nat} {post : Int32 → Mm → Prop} {K314 : Nat → Int32 → Int32 → Int32 → Int32 → Int32 → Mm → Nat → Prop} (X : Cx p l s m args meth c cL_holds 12 (some .boolean) RL G A) (hl0 : l.stackTraces = false) (hkd : G.2.2 = kd) (hK314 : ∀ (v0 : Nat) (v1 : Int32) (v2 : Int32) (v3 : Int32) (v7 : Int32) (v8 : Int32) (μ : Mm) (cz : Nat), K314 v0 v1 v2 v3 v7 v8 μ cz → J p l e (rmL (79) 1000 8000) s m args below meth c 12 G A (MQ below (QG G A (pI post)) args s 1000 8000 A) cz (8 * cz) 314 [(0, .ref v0), (1, .int v1), (2, .int v2), (3, .int v3), (7, .int v7), (8, .int v8)] [] μ) : ∀ (v0 : Nat) (v1 : Int32) (v3 : Int32) (v7 : Int32) (v8 : Int32) (v9 : Int32) (v10 : Int32) (v11 : Int32) (s0 : Int32) (μ : Mm) (cz : Nat), wb_L_holds_372 kd post K314 v0 v1 v3 v7 v8 v9 v10 v11 s0 μ cz → J p l e (rmL (79) 1000 8000) s m args below meth c 12 G A (MQ below (QG G A (pI post)) args s 1000 8000 A) cz (8 * cz) 372 [(0, .ref v0), (1, .int v1), (3, .int v3), (7, .int v7), (8, .int v8), (9, .int v9), (10, .int v10), (11, .int v11)] [.int s0] μ := by
  intro v0 v1 v3 v7 v8 v9 v10 v11 s0 μ cz hw
  unfold wb_L_holds_372 at hw
  refine j_istore_n X (pc' := 373) (kk := 2) (i := 2) (loc' := [(2, .int s0), (0, .ref v0), (1, .int v1), (3, .int v3), (7, .int v7), (8, .int v8), (9, .int v9), (10, .int v10), (11, .int v11)]) dL_holds_372 rfl rfl (by decide) rfl ?_
  refine j_iload_n X (pc' := 374) (kk := 2) (i := 2) 0 rfl rfl dL_holds_373 rfl ?_
  refine j_if_eq X (pc' := 377) (tgt := 462) dL_holds_374 rfl (by decide) (fun c195 => ?_) (fun c195 => ?_)
  · have hw1 := hw.1 c195
    refine j_loc [1, 2, 0, 3, 4, 5, 6, 7, 8] rfl ?_
    exact tb_L_holds_462 X hl0 hkd hK314 _ _ _ _ _ _ _ _ _ _ _ hw1
  · have hw2 := hw.2 c195
    refine j_iload X (pc' := 379) (i := 11) 8 rfl dL_holds_377 rfl ?_
    refine j_iconst X (pc' := 380) (v := (-1)) (by decide) dL_holds_379 rfl ?_
    refine j_icmp_ne X (pc' := 383) (tgt := 462) dL_holds_380 rfl (by decide) (fun c196 => ?_) (fun c196 => ?_)
    · have hw3 := hw2.1 c196
      refine j_loc [1, 2, 0, 3, 4, 5, 6, 7, 8] rfl ?_
      exact tb_L_holds_462 X hl0 hkd hK314 _ _ _ _ _ _ _ _ _ _ _ hw3
    · have hw4 := hw2.2 c196
      refine j_aload_n X (pc' := 384) (kk := 0) (i := 0) 1 rfl rfl dL_holds_383 rfl ?_
      refine j_iload_n X (pc' := 385) (kk := 3) (i := 3) 3 rfl rfl dL_holds_384 rfl ?_
      refine j_iconst X (pc' := 386) (v := 3) (by decide) dL_holds_385 rfl ?_
      obtain ⟨hz197, hw5⟩ := hw4
      refine j_callSWi X (pc' := 389) (cells' := cz + 3) (slots' := 8 * (cz) + 18) (As := [.ref v0, .int v3, .int ((3 : Int32))]) (rest := []) (c_L_reads l G A hl0 kd hkd v0 v3 (3 : Int32) μ _ hw5) (gk_L_reads wt_3_81) hd_L_reads (rmL_fit (k1 := 78) (k := 79) (by omega) (by decide)) rfl rfl (Nat.le_of_ble_eq_true rfl) dL_holds_386 rfl ⟨by show _ ≤ 1000; omega, by show _ ≤ 8000; omega⟩ rfl rfl (fun r198 μ201 hw6 => ?_)
      refine j_widen (k1 := cz + 3) (n1 := 8 * (cz + 3)) (by omega) (by omega) ?_
      refine j_if_le X (pc' := 392) (tgt := 457) dL_holds_389 rfl (by decide) (fun c202 => ?_) (fun c202 => ?_)
      · have hw7 := hw6.1 c202
        refine j_loc [1, 2, 3, 4, 5] rfl ?_
        exact tb_L_holds_457 X hl0 hkd hK314 _ _ _ _ _ _ _ hw7
      · have hw8 := hw6.2 c202
        refine j_aload_n X (pc' := 393) (kk := 0) (i := 0) 1 rfl rfl dL_holds_392 rfl ?_
        refine j_iload_n X (pc' := 394) (kk := 3) (i := 3) 3 rfl rfl dL_holds_393 rfl ?_
        obtain ⟨hz203, hw9⟩ := hw8
        refine j_callSWi X (pc' := 397) (cells' := cz + 3 + 1) (slots' := 8 * (cz + 3) + 6) (As := [.ref v0, .int v3]) (rest := []) (c_L_wrong l G A hl0 kd hkd v0 v3 μ201 _ hw9) (gk_L_wrong wt_2_225) hd_L_wrong (rmL_fit (k1 := 77) (k := 79) (by omega) (by decide)) rfl rfl (Nat.le_of_ble_eq_true rfl) dL_holds_394 rfl ⟨by show _ ≤ 1000; omega, by show _ ≤ 8000; omega⟩ rfl rfl (fun r204 μ207 hw10 => ?_)
        refine j_widen (k1 := cz + 4) (n1 := 8 * (cz + 4)) (by omega) (by omega) ?_
        refine j_iconst X (pc' := 398) (v := (-1)) (by decide) dL_holds_397 rfl ?_
        refine j_icmp_ne X (pc' := 401) (tgt := 457) dL_holds_398 rfl (by decide) (fun c208 => ?_) (fun c208 => ?_)
        · have hw11 := hw10.1 c208
          refine j_loc [1, 2, 3, 4, 5] rfl ?_
          exact tb_L_holds_457 X hl0 hkd hK314 _ _ _ _ _ _ _ hw11
        · have hw12 := hw10.2 c208
          refine j_aload_n X (pc' := 402) (kk := 0) (i := 0) 1 rfl rfl dL_holds_401 rfl ?_
          refine j_iload_n X (pc' := 403) (kk := 3) (i := 3) 3 rfl rfl dL_holds_402 rfl ?_
          obtain ⟨hz209, hw13⟩ := hw12
          refine j_callSWi X (pc' := 406) (cells' := cz + 4 + 2) (slots' := 8 * (cz + 4) + 12) (As := [.ref v0, .int v3]) (rest := []) (c_L_writes l G A hl0 kd hkd v0 v3 μ207 _ hw13) (gk_L_writes wt_3_40) hd_L_writes (rmL_fit (k1 := 77) (k := 79) (by omega) (by decide)) rfl rfl (Nat.le_of_ble_eq_true rfl) dL_holds_403 rfl ⟨by show _ ≤ 1000; omega, by show _ ≤ 8000; omega⟩ rfl rfl (fun r210 μ213 hw14 => ?_)
          refine j_widen (k1 := cz + 6) (n1 := 8 * (cz + 6)) (by omega) (by omega) ?_
          refine j_aload_n X (pc' := 407) (kk := 0) (i := 0) 1 rfl rfl dL_holds_406 rfl ?_
          obtain ⟨hz214, hw15⟩ := hw14
          obtain ⟨⟨f217, hm216⟩, hw16⟩ := hw15
          refine j_callVi X (pc' := 410) (cells' := cz + 6 + 0) (slots' := 8 * (cz + 6) + 0) (As := []) (rest := [.int r210]) (c_X6_bits l G A v0 μ213 _ hw16) (gk_X6_bits wt_1_136) hd_X6_bits (rmL_fit (k1 := 1) (k := 79) (by omega) (by decide)) hm216 rfl rfl rfl (Nat.le_of_ble_eq_true rfl) dL_holds_407 rfl ⟨by show _ ≤ 1000; omega, by show _ ≤ 8000; omega⟩ rfl rfl (fun r215 μ218 hw17 => ?_)
          refine j_widen (k1 := cz + 6) (n1 := 8 * (cz + 6)) (by omega) (by omega) ?_
          refine j_icmp_ne X (pc' := 413) (tgt := 457) dL_holds_410 rfl (by decide) (fun c219 => ?_) (fun c219 => ?_)
          · have hw18 := hw17.1 c219
            refine j_loc [1, 2, 3, 4, 5] rfl ?_
            exact tb_L_holds_457 X hl0 hkd hK314 _ _ _ _ _ _ _ hw18
          · have hw19 := hw17.2 c219
            refine j_aload_n X (pc' := 414) (kk := 0) (i := 0) 1 rfl rfl dL_holds_413 rfl ?_
            refine j_iload X (pc' := 416) (i := 9) 6 rfl dL_holds_414 rfl ?_
            obtain ⟨hz220, hw20⟩ := hw19
            refine j_callSWi X (pc' := 419) (cells' := cz + 6 + 1) (slots' := 8 * (cz + 6) + 6) (As := [.ref v0, .int v9]) (rest := []) (c_L_bit l G A hl0 v0 v9 μ218 _ hw20) (gk_L_bit wt_3_56) hd_L_bit (rmL_fit (k1 := 2) (k := 79) (by omega) (by decide)) rfl rfl (Nat.le_of_ble_eq_true rfl) dL_holds_416 rfl ⟨by show _ ≤ 1000; omega, by show _ ≤ 8000; omega⟩ rfl rfl (fun r221 μ224 hw21 => ?_)
            refine j_widen (k1 := cz + 7) (n1 := 8 * (cz + 7)) (by omega) (by omega) ?_
            refine j_iload X (pc' := 421) (i := 10) 7 rfl dL_holds_419 rfl ?_
            refine j_icmp_ne X (pc' := 424) (tgt := 457) dL_holds_421 rfl (by decide) (fun c225 => ?_) (fun c225 => ?_)
            · have hw22 := hw21.1 c225
              refine j_loc [1, 2, 3, 4, 5] rfl ?_
              exact tb_L_holds_457 X hl0 hkd hK314 _ _ _ _ _ _ _ hw22
            · have hw23 := hw21.2 c225
              refine j_aload_n X (pc' := 425) (kk := 0) (i := 0) 1 rfl rfl dL_holds_424 rfl ?_
              obtain ⟨hz226, hw24⟩ := hw23
              obtain ⟨⟨f229, hm228⟩, hw25⟩ := hw24
              refine j_callVi X (pc' := 428) (cells' := cz + 7 + 0) (slots' := 8 * (cz + 7) + 0) (As := []) (rest := []) (c_X6_bits l G A v0 μ224 _ hw25) (gk_X6_bits wt_1_136) hd_X6_bits (rmL_fit (k1 := 1) (k := 79) (by omega) (by decide)) hm228 rfl rfl rfl (Nat.le_of_ble_eq_true rfl) dL_holds_425 rfl ⟨by show _ ≤ 1000; omega, by show _ ≤ 8000; omega⟩ rfl rfl (fun r227 μ230 hw26 => ?_)
              refine j_widen (k1 := cz + 7) (n1 := 8 * (cz + 7)) (by omega) (by omega) ?_
              refine j_iload X (pc' := 430) (i := 7) 4 rfl dL_holds_428 rfl ?_
              refine j_icmp_ne X (pc' := 433) (tgt := 457) dL_holds_430 rfl (by decide) (fun c231 => ?_) (fun c231 => ?_)
              · have hw27 := hw26.1 c231
                refine j_loc [1, 2, 3, 4, 5] rfl ?_
                exact tb_L_holds_457 X hl0 hkd hK314 _ _ _ _ _ _ _ hw27
              · have hw28 := hw26.2 c231
                refine j_aload_n X (pc' := 434) (kk := 0) (i := 0) 1 rfl rfl dL_holds_433 rfl ?_
                refine j_iload_n X (pc' := 435) (kk := 3) (i := 3) 3 rfl rfl dL_holds_434 rfl ?_
                refine j_iload_n X (pc' := 436) (kk := 1) (i := 1) 2 rfl rfl dL_holds_435 rfl ?_
                refine j_iconst X (pc' := 437) (v := 4) (by decide) dL_holds_436 rfl ?_
                refine j_irem X (pc' := 438) (by decide) dL_holds_437 rfl ?_
                obtain ⟨hz232, hw29⟩ := hw28
                refine j_callSWi X (pc' := 441) (cells' := cz + 7 + 3) (slots' := 8 * (cz + 7) + 18) (As := [.ref v0, .int v3, .int (v1 - v1 / (4 : Int32) * (4 : Int32))]) (rest := []) (c_L_reads l G A hl0 kd hkd v0 v3 (v1 - v1 / (4 : Int32) * (4 : Int32)) μ230 _ hw29) (gk_L_reads wt_3_81) hd_L_reads (rmL_fit (k1 := 78) (k := 79) (by omega) (by decide)) rfl rfl (Nat.le_of_ble_eq_true rfl) dL_holds_438 rfl ⟨by show _ ≤ 1000; omega, by show _ ≤ 8000; omega⟩ rfl rfl (fun r233 μ236 hw30 => ?_)
                refine j_widen (k1 := cz + 10) (n1 := 8 * (cz + 10)) (by omega) (by omega) ?_
                refine j_if_le X (pc' := 444) (tgt := 457) dL_holds_441 rfl (by decide) (fun c237 => ?_) (fun c237 => ?_)
                · have hw31 := hw30.1 c237
                  refine j_loc [1, 2, 3, 4, 5] rfl ?_
                  exact tb_L_holds_457 X hl0 hkd hK314 _ _ _ _ _ _ _ hw31
                · have hw32 := hw30.2 c237
                  refine j_aload_n X (pc' := 445) (kk := 0) (i := 0) 1 rfl rfl dL_holds_444 rfl ?_
                  refine j_iload_n X (pc' := 446) (kk := 3) (i := 3) 3 rfl rfl dL_holds_445 rfl ?_
                  obtain ⟨hz238, hw33⟩ := hw32
                  refine j_callSWi X (pc' := 449) (cells' := cz + 10 + 1) (slots' := 8 * (cz + 10) + 6) (As := [.ref v0, .int v3]) (rest := []) (c_L_wrong l G A hl0 kd hkd v0 v3 μ236 _ hw33) (gk_L_wrong wt_2_225) hd_L_wrong (rmL_fit (k1 := 77) (k := 79) (by omega) (by decide)) rfl rfl (Nat.le_of_ble_eq_true rfl) dL_holds_446 rfl ⟨by show _ ≤ 1000; omega, by show _ ≤ 8000; omega⟩ rfl rfl (fun r239 μ242 hw34 => ?_)
                  refine j_widen (k1 := cz + 11) (n1 := 8 * (cz + 11)) (by omega) (by omega) ?_
                  refine j_iconst X (pc' := 450) (v := (-1)) (by decide) dL_holds_449 rfl ?_
                  refine j_icmp_ne X (pc' := 453) (tgt := 457) dL_holds_450 rfl (by decide) (fun c243 => ?_) (fun c243 => ?_)
                  · have hw35 := hw34.1 c243
                    refine j_loc [1, 2, 3, 4, 5] rfl ?_
                    exact tb_L_holds_457 X hl0 hkd hK314 _ _ _ _ _ _ _ hw35
                  · have hw36 := hw34.2 c243
                    refine j_iconst X (pc' := 454) (v := 1) (by decide) dL_holds_453 rfl ?_
                    refine j_goto X (tgt := 458) dL_holds_454 (by decide) ?_
                    refine j_istore_n X (pc' := 459) (kk := 2) (i := 2) (loc' := [(2, .int ((1 : Int32))), (0, .ref v0), (1, .int v1), (3, .int v3), (7, .int v7), (8, .int v8), (9, .int v9), (10, .int v10), (11, .int v11)]) dL_holds_458 rfl rfl (by decide) rfl ?_
                    refine j_goto X (tgt := 518) dL_holds_459 (by decide) ?_
                    refine j_iinc X (pc' := 521) (i := 8) (v := v8 + 1) (loc' := [(8, .int (v8 + 1)), (2, .int ((1 : Int32))), (0, .ref v0), (1, .int v1), (3, .int v3), (7, .int v7), (9, .int v9), (10, .int v10), (11, .int v11)]) 5 rfl rfl dL_holds_518 rfl (by decide) rfl ?_
                    refine j_goto X (tgt := 314) dL_holds_521 (by decide) ?_
                    refine j_loc [2, 3, 1, 4, 5, 0] rfl ?_
                    exact hK314 _ _ _ _ _ _ _ _ hw36
def wb_L_holds_314 (kd : Nat → Nat) (post : Int32 → Mm → Prop)  : Nat → Nat → Int32 → Int32 → Int32 → Int32 → Int32 → Mm → Nat → Prop
  | 0 => fun _ _ _ _ _ _ _ _ => False
  | n + 1 => fun v0 v1 v2 v3 v7 v8 μ cz => ((4 : Int32) ≤ v8 → (wb_L_holds_524 kd post v0 v1 v2 v3 v7 μ cz)) ∧ (¬ (4 : Int32) ≤ v8 → ((v2 = 0 → (wb_L_holds_524 kd post v0 v1 v2 v3 v7 μ cz)) ∧ (¬ v2 = 0 → ((v7 ≤ 0 → (wb_L_holds_524 kd post v0 v1 v2 v3 v7 μ cz)) ∧ (¬ v7 ≤ 0 → (¬ ((4 : Int32) + v8) = 0 ∧ ¬ v7 = 0 ∧ cz + 1 ≤ 1000 ∧ wp_L_flips v0 ((v1 / ((4 : Int32) + v8)) - (v1 / ((4 : Int32) + v8)) / v7 * v7) μ (fun r182 μ185 => cz + 3 ≤ 1000 ∧ wp_L_fault kd v0 v3 (3 : Int32) μ185 (fun r187 μ190 => (r182 = 0 → (wb_L_holds_372 kd post (wb_L_holds_314 kd post n) v0 v1 v3 v7 v8 ((v1 / ((4 : Int32) + v8)) - (v1 / ((4 : Int32) + v8)) / v7 * v7) r182 r187 (1 : Int32) μ190 (cz + 3))) ∧ (¬ r182 = 0 → ((¬ r182 = (1 : Int32) → (wb_L_holds_372 kd post (wb_L_holds_314 kd post n) v0 v1 v3 v7 v8 ((v1 / ((4 : Int32) + v8)) - (v1 / ((4 : Int32) + v8)) / v7 * v7) r182 r187 (0 : Int32) μ190 (cz + 3))) ∧ (r182 = (1 : Int32) → (wb_L_holds_372 kd post (wb_L_holds_314 kd post n) v0 v1 v3 v7 v8 ((v1 / ((4 : Int32) + v8)) - (v1 / ((4 : Int32) + v8)) / v7 * v7) r182 r187 (1 : Int32) μ190 (cz + 3)))))))))))))
set_option maxHeartbeats 4000000 in
set_option maxRecDepth 100000 in
theorem tb_L_holds_314 {p : Program} {l : Launch} {e : Env} {s : State} {m : MethodId} {args : Array Value} {below : List Frame} {meth : Method} {c : Code} {G : gG} {A : Nat → Prop} {kd : Nat → Nat} {post : Int32 → Mm → Prop} (X : Cx p l s m args meth c cL_holds 12 (some .boolean) RL G A) (hl0 : l.stackTraces = false) (hkd : G.2.2 = kd) : ∀ (n : Nat) (v0 : Nat) (v1 : Int32) (v2 : Int32) (v3 : Int32) (v7 : Int32) (v8 : Int32) (μ : Mm) (cz : Nat), wb_L_holds_314 kd post n v0 v1 v2 v3 v7 v8 μ cz → J p l e (rmL (79) 1000 8000) s m args below meth c 12 G A (MQ below (QG G A (pI post)) args s 1000 8000 A) cz (8 * cz) 314 [(0, .ref v0), (1, .int v1), (2, .int v2), (3, .int v3), (7, .int v7), (8, .int v8)] [] μ := by
  intro n
  induction n with
  | zero => intro v0 v1 v2 v3 v7 v8 μ cz hw; exact hw.elim
  | succ n ih =>
    intro v0 v1 v2 v3 v7 v8 μ cz hw
    rw [wb_L_holds_314] at hw
    refine j_iload X (pc' := 316) (i := 8) 5 rfl dL_holds_314 rfl ?_
    refine j_iconst X (pc' := 317) (v := 4) (by decide) dL_holds_316 rfl ?_
    refine j_icmp_ge X (pc' := 320) (tgt := 524) dL_holds_317 rfl (by decide) (fun c176 => ?_) (fun c176 => ?_)
    · have hw1 := hw.1 c176
      refine j_loc [0, 1, 2, 3, 4] rfl ?_
      exact tb_L_holds_524 X hl0 hkd _ _ _ _ _ _ _ hw1
    · have hw2 := hw.2 c176
      refine j_iload_n X (pc' := 321) (kk := 2) (i := 2) 2 rfl rfl dL_holds_320 rfl ?_
      refine j_if_eq X (pc' := 324) (tgt := 524) dL_holds_321 rfl (by decide) (fun c177 => ?_) (fun c177 => ?_)
      · have hw3 := hw2.1 c177
        refine j_loc [0, 1, 2, 3, 4] rfl ?_
        exact tb_L_holds_524 X hl0 hkd _ _ _ _ _ _ _ hw3
      · have hw4 := hw2.2 c177
        refine j_iload X (pc' := 326) (i := 7) 4 rfl dL_holds_324 rfl ?_
        refine j_if_le X (pc' := 329) (tgt := 524) dL_holds_326 rfl (by decide) (fun c178 => ?_) (fun c178 => ?_)
        · have hw5 := hw4.1 c178
          refine j_loc [0, 1, 2, 3, 4] rfl ?_
          exact tb_L_holds_524 X hl0 hkd _ _ _ _ _ _ _ hw5
        · have hw6 := hw4.2 c178
          refine j_iload_n X (pc' := 330) (kk := 1) (i := 1) 1 rfl rfl dL_holds_329 rfl ?_
          refine j_iconst X (pc' := 331) (v := 4) (by decide) dL_holds_330 rfl ?_
          refine j_iload X (pc' := 333) (i := 8) 5 rfl dL_holds_331 rfl ?_
          refine j_iadd X (pc' := 334) dL_holds_333 rfl ?_
          obtain ⟨h179, hw7⟩ := hw6
          refine j_idiv X (pc' := 335) h179 dL_holds_334 rfl ?_
          refine j_iload X (pc' := 337) (i := 7) 4 rfl dL_holds_335 rfl ?_
          obtain ⟨h180, hw8⟩ := hw7
          refine j_irem X (pc' := 338) h180 dL_holds_337 rfl ?_
          refine j_istore X (pc' := 340) (i := 9) (loc' := [(9, .int ((v1 / ((4 : Int32) + v8)) - (v1 / ((4 : Int32) + v8)) / v7 * v7)), (0, .ref v0), (1, .int v1), (2, .int v2), (3, .int v3), (7, .int v7), (8, .int v8)]) dL_holds_338 rfl (by decide) rfl ?_
          refine j_aload_n X (pc' := 341) (kk := 0) (i := 0) 1 rfl rfl dL_holds_340 rfl ?_
          refine j_iload X (pc' := 343) (i := 9) 0 rfl dL_holds_341 rfl ?_
          obtain ⟨hz181, hw9⟩ := hw8
          refine j_callSWi X (pc' := 346) (cells' := cz + 1) (slots' := 8 * (cz) + 6) (As := [.ref v0, .int ((v1 / ((4 : Int32) + v8)) - (v1 / ((4 : Int32) + v8)) / v7 * v7)]) (rest := []) (c_L_flips l G A hl0 v0 ((v1 / ((4 : Int32) + v8)) - (v1 / ((4 : Int32) + v8)) / v7 * v7) μ _ hw9) (gk_L_flips wt_3_64) hd_L_flips (rmL_fit (k1 := 3) (k := 79) (by omega) (by decide)) rfl rfl (Nat.le_of_ble_eq_true rfl) dL_holds_343 rfl ⟨by show _ ≤ 1000; omega, by show _ ≤ 8000; omega⟩ rfl rfl (fun r182 μ185 hw10 => ?_)
          refine j_widen (k1 := cz + 1) (n1 := 8 * (cz + 1)) (by omega) (by omega) ?_
          refine j_istore X (pc' := 348) (i := 10) (loc' := [(10, .int r182), (9, .int ((v1 / ((4 : Int32) + v8)) - (v1 / ((4 : Int32) + v8)) / v7 * v7)), (0, .ref v0), (1, .int v1), (2, .int v2), (3, .int v3), (7, .int v7), (8, .int v8)]) dL_holds_346 rfl (by decide) rfl ?_
          refine j_aload_n X (pc' := 349) (kk := 0) (i := 0) 2 rfl rfl dL_holds_348 rfl ?_
          refine j_iload_n X (pc' := 350) (kk := 3) (i := 3) 5 rfl rfl dL_holds_349 rfl ?_
          refine j_iconst X (pc' := 351) (v := 3) (by decide) dL_holds_350 rfl ?_
          obtain ⟨hz186, hw11⟩ := hw10
          refine j_callSWi X (pc' := 354) (cells' := cz + 1 + 2) (slots' := 8 * (cz + 1) + 12) (As := [.ref v0, .int v3, .int ((3 : Int32))]) (rest := []) (c_L_fault l G A hl0 kd hkd v0 v3 (3 : Int32) μ185 _ hw11) (gk_L_fault wt_3_138) hd_L_fault (rmL_fit (k1 := 78) (k := 79) (by omega) (by decide)) rfl rfl (Nat.le_of_ble_eq_true rfl) dL_holds_351 rfl ⟨by show _ ≤ 1000; omega, by show _ ≤ 8000; omega⟩ rfl rfl (fun r187 μ190 hw12 => ?_)
          refine j_widen (k1 := cz + 3) (n1 := 8 * (cz + 3)) (by omega) (by omega) ?_
          refine j_istore X (pc' := 356) (i := 11) (loc' := [(11, .int r187), (10, .int r182), (9, .int ((v1 / ((4 : Int32) + v8)) - (v1 / ((4 : Int32) + v8)) / v7 * v7)), (0, .ref v0), (1, .int v1), (2, .int v2), (3, .int v3), (7, .int v7), (8, .int v8)]) dL_holds_354 rfl (by decide) rfl ?_
          refine j_iload X (pc' := 358) (i := 10) 1 rfl dL_holds_356 rfl ?_
          refine j_if_eq X (pc' := 361) (tgt := 367) dL_holds_358 rfl (by decide) (fun c191 => ?_) (fun c191 => ?_)
          · have hw13 := hw12.1 c191
            refine j_iconst X (pc' := 368) (v := 1) (by decide) dL_holds_367 rfl ?_
            refine j_goto X (tgt := 372) dL_holds_368 (by decide) ?_
            refine j_loc [3, 4, 6, 7, 8, 2, 1, 0] rfl ?_
            exact tb_L_holds_372 X hl0 hkd ih _ _ _ _ _ _ _ _ _ _ _ hw13
          · have hw14 := hw12.2 c191
            refine j_iload X (pc' := 363) (i := 10) 1 rfl dL_holds_361 rfl ?_
            refine j_iconst X (pc' := 364) (v := 1) (by decide) dL_holds_363 rfl ?_
            refine j_icmp_ne X (pc' := 367) (tgt := 371) dL_holds_364 rfl (by decide) (fun c192 => ?_) (fun c192 => ?_)
            · have hw15 := hw14.1 c192
              refine j_iconst X (pc' := 372) (v := 0) (by decide) dL_holds_371 rfl ?_
              refine j_loc [3, 4, 6, 7, 8, 2, 1, 0] rfl ?_
              exact tb_L_holds_372 X hl0 hkd ih _ _ _ _ _ _ _ _ _ _ _ hw15
            · have hw16 := hw14.2 c192
              refine j_iconst X (pc' := 368) (v := 1) (by decide) dL_holds_367 rfl ?_
              refine j_goto X (tgt := 372) dL_holds_368 (by decide) ?_
              refine j_loc [3, 4, 6, 7, 8, 2, 1, 0] rfl ?_
              exact tb_L_holds_372 X hl0 hkd ih _ _ _ _ _ _ _ _ _ _ _ hw16
def wb_L_holds_310 (kd : Nat → Nat) (post : Int32 → Mm → Prop)  (v0 : Nat) (v1 : Int32) (v3 : Int32) (v7 : Int32) (s0 : Int32) (μ : Mm) (cz : Nat) : Prop := ∃ n9, wb_L_holds_314 kd post n9 v0 v1 s0 v3 v7 (0 : Int32) μ cz
set_option maxHeartbeats 4000000 in
set_option maxRecDepth 100000 in
theorem tb_L_holds_310 {p : Program} {l : Launch} {e : Env} {s : State} {m : MethodId} {args : Array Value} {below : List Frame} {meth : Method} {c : Code} {G : gG} {A : Nat → Prop} {kd : Nat → Nat} {post : Int32 → Mm → Prop} (X : Cx p l s m args meth c cL_holds 12 (some .boolean) RL G A) (hl0 : l.stackTraces = false) (hkd : G.2.2 = kd) : ∀ (v0 : Nat) (v1 : Int32) (v3 : Int32) (v7 : Int32) (s0 : Int32) (μ : Mm) (cz : Nat), wb_L_holds_310 kd post v0 v1 v3 v7 s0 μ cz → J p l e (rmL (79) 1000 8000) s m args below meth c 12 G A (MQ below (QG G A (pI post)) args s 1000 8000 A) cz (8 * cz) 310 [(0, .ref v0), (1, .int v1), (3, .int v3), (7, .int v7)] [.int s0] μ := by
  intro v0 v1 v3 v7 s0 μ cz hw
  unfold wb_L_holds_310 at hw
  refine j_istore_n X (pc' := 311) (kk := 2) (i := 2) (loc' := [(2, .int s0), (0, .ref v0), (1, .int v1), (3, .int v3), (7, .int v7)]) dL_holds_310 rfl rfl (by decide) rfl ?_
  refine j_iconst X (pc' := 312) (v := 0) (by decide) dL_holds_311 rfl ?_
  refine j_istore X (pc' := 314) (i := 8) (loc' := [(8, .int ((0 : Int32))), (2, .int s0), (0, .ref v0), (1, .int v1), (3, .int v3), (7, .int v7)]) dL_holds_312 rfl (by decide) rfl ?_
  obtain ⟨n0, hw1⟩ := hw
  refine j_loc [2, 3, 1, 4, 5, 0] rfl ?_
  exact tb_L_holds_314 X hl0 hkd n0 _ _ _ _ _ _ _ _ hw1
def wb_L_holds_309 (kd : Nat → Nat) (post : Int32 → Mm → Prop)  (v0 : Nat) (v1 : Int32) (v3 : Int32) (v7 : Int32) (μ : Mm) (cz : Nat) : Prop := wb_L_holds_310 kd post v0 v1 v3 v7 (0 : Int32) μ cz
set_option maxHeartbeats 4000000 in
set_option maxRecDepth 100000 in
theorem tb_L_holds_309 {p : Program} {l : Launch} {e : Env} {s : State} {m : MethodId} {args : Array Value} {below : List Frame} {meth : Method} {c : Code} {G : gG} {A : Nat → Prop} {kd : Nat → Nat} {post : Int32 → Mm → Prop} (X : Cx p l s m args meth c cL_holds 12 (some .boolean) RL G A) (hl0 : l.stackTraces = false) (hkd : G.2.2 = kd) : ∀ (v0 : Nat) (v1 : Int32) (v3 : Int32) (v7 : Int32) (μ : Mm) (cz : Nat), wb_L_holds_309 kd post v0 v1 v3 v7 μ cz → J p l e (rmL (79) 1000 8000) s m args below meth c 12 G A (MQ below (QG G A (pI post)) args s 1000 8000 A) cz (8 * cz) 309 [(0, .ref v0), (1, .int v1), (3, .int v3), (7, .int v7)] [] μ := by
  intro v0 v1 v3 v7 μ cz hw
  unfold wb_L_holds_309 at hw
  refine j_iconst X (pc' := 310) (v := 0) (by decide) dL_holds_309 rfl ?_
  exact tb_L_holds_310 X hl0 hkd _ _ _ _ _ _ _ hw
def wb_L_holds_295 (kd : Nat → Nat) (post : Int32 → Mm → Prop)  (v0 : Nat) (v1 : Int32) (v3 : Int32) (v7 : Int32) (μ : Mm) (cz : Nat) : Prop := cz + 2 ≤ 1000 ∧ wp_L_writes kd v0 v3 μ (fun r171 μ174 => (¬ r171 = v7 → (wb_L_holds_309 kd post v0 v1 v3 v7 μ174 (cz + 2))) ∧ (r171 = v7 → (wb_L_holds_310 kd post v0 v1 v3 v7 (1 : Int32) μ174 (cz + 2))))
set_option maxHeartbeats 4000000 in
set_option maxRecDepth 100000 in
theorem tb_L_holds_295 {p : Program} {l : Launch} {e : Env} {s : State} {m : MethodId} {args : Array Value} {below : List Frame} {meth : Method} {c : Code} {G : gG} {A : Nat → Prop} {kd : Nat → Nat} {post : Int32 → Mm → Prop} (X : Cx p l s m args meth c cL_holds 12 (some .boolean) RL G A) (hl0 : l.stackTraces = false) (hkd : G.2.2 = kd) : ∀ (v0 : Nat) (v1 : Int32) (v3 : Int32) (v7 : Int32) (μ : Mm) (cz : Nat), wb_L_holds_295 kd post v0 v1 v3 v7 μ cz → J p l e (rmL (79) 1000 8000) s m args below meth c 12 G A (MQ below (QG G A (pI post)) args s 1000 8000 A) cz (8 * cz) 295 [(0, .ref v0), (1, .int v1), (3, .int v3), (7, .int v7)] [] μ := by
  intro v0 v1 v3 v7 μ cz hw
  unfold wb_L_holds_295 at hw
  refine j_aload_n X (pc' := 296) (kk := 0) (i := 0) 0 rfl rfl dL_holds_295 rfl ?_
  refine j_iload_n X (pc' := 297) (kk := 3) (i := 3) 2 rfl rfl dL_holds_296 rfl ?_
  obtain ⟨hz170, hw1⟩ := hw
  refine j_callSWi X (pc' := 300) (cells' := cz + 2) (slots' := 8 * (cz) + 12) (As := [.ref v0, .int v3]) (rest := []) (c_L_writes l G A hl0 kd hkd v0 v3 μ _ hw1) (gk_L_writes wt_3_40) hd_L_writes (rmL_fit (k1 := 77) (k := 79) (by omega) (by decide)) rfl rfl (Nat.le_of_ble_eq_true rfl) dL_holds_297 rfl ⟨by show _ ≤ 1000; omega, by show _ ≤ 8000; omega⟩ rfl rfl (fun r171 μ174 hw2 => ?_)
  refine j_widen (k1 := cz + 2) (n1 := 8 * (cz + 2)) (by omega) (by omega) ?_
  refine j_iload X (pc' := 302) (i := 7) 3 rfl dL_holds_300 rfl ?_
  refine j_icmp_ne X (pc' := 305) (tgt := 309) dL_holds_302 rfl (by decide) (fun c175 => ?_) (fun c175 => ?_)
  · have hw3 := hw2.1 c175
    exact tb_L_holds_309 X hl0 hkd _ _ _ _ _ _ hw3
  · have hw4 := hw2.2 c175
    refine j_iconst X (pc' := 306) (v := 1) (by decide) dL_holds_305 rfl ?_
    refine j_goto X (tgt := 310) dL_holds_306 (by decide) ?_
    exact tb_L_holds_310 X hl0 hkd _ _ _ _ _ _ _ hw4
def wb_L_holds_196 (kd : Nat → Nat) (post : Int32 → Mm → Prop)  (v0 : Nat) (v1 : Int32) (v3 : Int32) (v4 : Int32) (v5 : Int32) (s0 : Int32) (μ : Mm) (cz : Nat) : Prop := cz + 2 ≤ 1000 ∧ wp_L_writes kd v0 v3 μ (fun r117 μ120 => cz + 3 ≤ 1000 ∧ wp_L_least v0 v3 μ120 (fun r122 μ125 => (r117 < r122 → (wb_L_holds_309 kd post v0 v1 v3 r117 μ125 (cz + 3))) ∧ (¬ r117 < r122 → (cz + 4 ≤ 1000 ∧ wp_L_most v0 v3 μ125 (fun r128 μ131 => (r128 < r117 → (wb_L_holds_309 kd post v0 v1 v3 r117 μ131 (cz + 4))) ∧ (¬ r128 < r117 → (cz + 6 ≤ 1000 ∧ wp_L_fault kd v0 v3 (3 : Int32) μ131 (fun r134 μ137 => (¬ r134 = (-1 : Int32) → (wb_L_holds_309 kd post v0 v1 v3 r117 μ137 (cz + 6))) ∧ (r134 = (-1 : Int32) → (cz + 8 ≤ 1000 ∧ wp_L_fault kd v0 v3 (v1 - v1 / (4 : Int32) * (4 : Int32)) μ137 (fun r140 μ143 => (¬ r140 = (-1 : Int32) → (wb_L_holds_309 kd post v0 v1 v3 r117 μ143 (cz + 8))) ∧ (r140 = (-1 : Int32) → (cz + 11 ≤ 1000 ∧ wp_L_reads kd v0 v3 (3 : Int32) μ143 (fun r146 μ149 => (¬ r146 = v4 → (wb_L_holds_309 kd post v0 v1 v3 r117 μ149 (cz + 11))) ∧ (r146 = v4 → (cz + 12 ≤ 1000 ∧ wp_L_wrong kd v0 v3 μ149 (fun r152 μ155 => (¬ r152 = (-1 : Int32) → (wb_L_holds_309 kd post v0 v1 v3 r117 μ155 (cz + 12))) ∧ (r152 = (-1 : Int32) → ((v4 = 0 → (wb_L_holds_295 kd post v0 v1 v3 r117 μ155 (cz + 12))) ∧ (¬ v4 = 0 → (cz + 13 ≤ 1000 ∧ wp_L_told v0 (0 : Int32) μ155 (fun r159 μ162 => (¬ r159 = v5 → (wb_L_holds_309 kd post v0 v1 v3 r117 μ162 (cz + 13))) ∧ (r159 = v5 → (cz + 14 ≤ 1000 ∧ wp_L_told v0 (v4 - (1 : Int32)) μ162 (fun r165 μ168 => (¬ r165 = s0 → (wb_L_holds_309 kd post v0 v1 v3 r117 μ168 (cz + 14))) ∧ (r165 = s0 → (wb_L_holds_295 kd post v0 v1 v3 r117 μ168 (cz + 14))))))))))))))))))))))))))))
set_option maxHeartbeats 4000000 in
set_option maxRecDepth 100000 in
theorem tb_L_holds_196 {p : Program} {l : Launch} {e : Env} {s : State} {m : MethodId} {args : Array Value} {below : List Frame} {meth : Method} {c : Code} {G : gG} {A : Nat → Prop} {kd : Nat → Nat} {post : Int32 → Mm → Prop} (X : Cx p l s m args meth c cL_holds 12 (some .boolean) RL G A) (hl0 : l.stackTraces = false) (hkd : G.2.2 = kd) : ∀ (v0 : Nat) (v1 : Int32) (v3 : Int32) (v4 : Int32) (v5 : Int32) (s0 : Int32) (μ : Mm) (cz : Nat), wb_L_holds_196 kd post v0 v1 v3 v4 v5 s0 μ cz → J p l e (rmL (79) 1000 8000) s m args below meth c 12 G A (MQ below (QG G A (pI post)) args s 1000 8000 A) cz (8 * cz) 196 [(0, .ref v0), (1, .int v1), (3, .int v3), (4, .int v4), (5, .int v5)] [.int s0] μ := by
  intro v0 v1 v3 v4 v5 s0 μ cz hw
  unfold wb_L_holds_196 at hw
  refine j_istore X (pc' := 198) (i := 6) (loc' := [(6, .int s0), (0, .ref v0), (1, .int v1), (3, .int v3), (4, .int v4), (5, .int v5)]) dL_holds_196 rfl (by decide) rfl ?_
  refine j_aload_n X (pc' := 199) (kk := 0) (i := 0) 1 rfl rfl dL_holds_198 rfl ?_
  refine j_iload_n X (pc' := 200) (kk := 3) (i := 3) 3 rfl rfl dL_holds_199 rfl ?_
  obtain ⟨hz116, hw1⟩ := hw
  refine j_callSWi X (pc' := 203) (cells' := cz + 2) (slots' := 8 * (cz) + 12) (As := [.ref v0, .int v3]) (rest := []) (c_L_writes l G A hl0 kd hkd v0 v3 μ _ hw1) (gk_L_writes wt_3_40) hd_L_writes (rmL_fit (k1 := 77) (k := 79) (by omega) (by decide)) rfl rfl (Nat.le_of_ble_eq_true rfl) dL_holds_200 rfl ⟨by show _ ≤ 1000; omega, by show _ ≤ 8000; omega⟩ rfl rfl (fun r117 μ120 hw2 => ?_)
  refine j_widen (k1 := cz + 2) (n1 := 8 * (cz + 2)) (by omega) (by omega) ?_
  refine j_istore X (pc' := 205) (i := 7) (loc' := [(7, .int r117), (6, .int s0), (0, .ref v0), (1, .int v1), (3, .int v3), (4, .int v4), (5, .int v5)]) dL_holds_203 rfl (by decide) rfl ?_
  refine j_iload X (pc' := 207) (i := 7) 0 rfl dL_holds_205 rfl ?_
  refine j_aload_n X (pc' := 208) (kk := 0) (i := 0) 2 rfl rfl dL_holds_207 rfl ?_
  refine j_iload_n X (pc' := 209) (kk := 3) (i := 3) 4 rfl rfl dL_holds_208 rfl ?_
  obtain ⟨hz121, hw3⟩ := hw2
  refine j_callSWi X (pc' := 212) (cells' := cz + 2 + 1) (slots' := 8 * (cz + 2) + 6) (As := [.ref v0, .int v3]) (rest := [.int r117]) (c_L_least l G A hl0 v0 v3 μ120 _ hw3) (gk_L_least wt_2_174) hd_L_least (rmL_fit (k1 := 3) (k := 79) (by omega) (by decide)) rfl rfl (Nat.le_of_ble_eq_true rfl) dL_holds_209 rfl ⟨by show _ ≤ 1000; omega, by show _ ≤ 8000; omega⟩ rfl rfl (fun r122 μ125 hw4 => ?_)
  refine j_widen (k1 := cz + 3) (n1 := 8 * (cz + 3)) (by omega) (by omega) ?_
  refine j_icmp_lt X (pc' := 215) (tgt := 309) dL_holds_212 rfl (by decide) (fun c126 => ?_) (fun c126 => ?_)
  · have hw5 := hw4.1 c126
    refine j_loc [2, 3, 4, 0] rfl ?_
    exact tb_L_holds_309 X hl0 hkd _ _ _ _ _ _ hw5
  · have hw6 := hw4.2 c126
    refine j_iload X (pc' := 217) (i := 7) 0 rfl dL_holds_215 rfl ?_
    refine j_aload_n X (pc' := 218) (kk := 0) (i := 0) 2 rfl rfl dL_holds_217 rfl ?_
    refine j_iload_n X (pc' := 219) (kk := 3) (i := 3) 4 rfl rfl dL_holds_218 rfl ?_
    obtain ⟨hz127, hw7⟩ := hw6
    refine j_callSWi X (pc' := 222) (cells' := cz + 3 + 1) (slots' := 8 * (cz + 3) + 6) (As := [.ref v0, .int v3]) (rest := [.int r117]) (c_L_most l G A hl0 v0 v3 μ125 _ hw7) (gk_L_most wt_2_181) hd_L_most (rmL_fit (k1 := 3) (k := 79) (by omega) (by decide)) rfl rfl (Nat.le_of_ble_eq_true rfl) dL_holds_219 rfl ⟨by show _ ≤ 1000; omega, by show _ ≤ 8000; omega⟩ rfl rfl (fun r128 μ131 hw8 => ?_)
    refine j_widen (k1 := cz + 4) (n1 := 8 * (cz + 4)) (by omega) (by omega) ?_
    refine j_icmp_gt X (pc' := 225) (tgt := 309) dL_holds_222 rfl (by decide) (fun c132 => ?_) (fun c132 => ?_)
    · have hw9 := hw8.1 c132
      refine j_loc [2, 3, 4, 0] rfl ?_
      exact tb_L_holds_309 X hl0 hkd _ _ _ _ _ _ hw9
    · have hw10 := hw8.2 c132
      refine j_aload_n X (pc' := 226) (kk := 0) (i := 0) 2 rfl rfl dL_holds_225 rfl ?_
      refine j_iload_n X (pc' := 227) (kk := 3) (i := 3) 4 rfl rfl dL_holds_226 rfl ?_
      refine j_iconst X (pc' := 228) (v := 3) (by decide) dL_holds_227 rfl ?_
      obtain ⟨hz133, hw11⟩ := hw10
      refine j_callSWi X (pc' := 231) (cells' := cz + 4 + 2) (slots' := 8 * (cz + 4) + 12) (As := [.ref v0, .int v3, .int ((3 : Int32))]) (rest := []) (c_L_fault l G A hl0 kd hkd v0 v3 (3 : Int32) μ131 _ hw11) (gk_L_fault wt_3_138) hd_L_fault (rmL_fit (k1 := 78) (k := 79) (by omega) (by decide)) rfl rfl (Nat.le_of_ble_eq_true rfl) dL_holds_228 rfl ⟨by show _ ≤ 1000; omega, by show _ ≤ 8000; omega⟩ rfl rfl (fun r134 μ137 hw12 => ?_)
      refine j_widen (k1 := cz + 6) (n1 := 8 * (cz + 6)) (by omega) (by omega) ?_
      refine j_iconst X (pc' := 232) (v := (-1)) (by decide) dL_holds_231 rfl ?_
      refine j_icmp_ne X (pc' := 235) (tgt := 309) dL_holds_232 rfl (by decide) (fun c138 => ?_) (fun c138 => ?_)
      · have hw13 := hw12.1 c138
        refine j_loc [2, 3, 4, 0] rfl ?_
        exact tb_L_holds_309 X hl0 hkd _ _ _ _ _ _ hw13
      · have hw14 := hw12.2 c138
        refine j_aload_n X (pc' := 236) (kk := 0) (i := 0) 2 rfl rfl dL_holds_235 rfl ?_
        refine j_iload_n X (pc' := 237) (kk := 3) (i := 3) 4 rfl rfl dL_holds_236 rfl ?_
        refine j_iload_n X (pc' := 238) (kk := 1) (i := 1) 3 rfl rfl dL_holds_237 rfl ?_
        refine j_iconst X (pc' := 239) (v := 4) (by decide) dL_holds_238 rfl ?_
        refine j_irem X (pc' := 240) (by decide) dL_holds_239 rfl ?_
        obtain ⟨hz139, hw15⟩ := hw14
        refine j_callSWi X (pc' := 243) (cells' := cz + 6 + 2) (slots' := 8 * (cz + 6) + 12) (As := [.ref v0, .int v3, .int (v1 - v1 / (4 : Int32) * (4 : Int32))]) (rest := []) (c_L_fault l G A hl0 kd hkd v0 v3 (v1 - v1 / (4 : Int32) * (4 : Int32)) μ137 _ hw15) (gk_L_fault wt_3_138) hd_L_fault (rmL_fit (k1 := 78) (k := 79) (by omega) (by decide)) rfl rfl (Nat.le_of_ble_eq_true rfl) dL_holds_240 rfl ⟨by show _ ≤ 1000; omega, by show _ ≤ 8000; omega⟩ rfl rfl (fun r140 μ143 hw16 => ?_)
        refine j_widen (k1 := cz + 8) (n1 := 8 * (cz + 8)) (by omega) (by omega) ?_
        refine j_iconst X (pc' := 244) (v := (-1)) (by decide) dL_holds_243 rfl ?_
        refine j_icmp_ne X (pc' := 247) (tgt := 309) dL_holds_244 rfl (by decide) (fun c144 => ?_) (fun c144 => ?_)
        · have hw17 := hw16.1 c144
          refine j_loc [2, 3, 4, 0] rfl ?_
          exact tb_L_holds_309 X hl0 hkd _ _ _ _ _ _ hw17
        · have hw18 := hw16.2 c144
          refine j_aload_n X (pc' := 248) (kk := 0) (i := 0) 2 rfl rfl dL_holds_247 rfl ?_
          refine j_iload_n X (pc' := 249) (kk := 3) (i := 3) 4 rfl rfl dL_holds_248 rfl ?_
          refine j_iconst X (pc' := 250) (v := 3) (by decide) dL_holds_249 rfl ?_
          obtain ⟨hz145, hw19⟩ := hw18
          refine j_callSWi X (pc' := 253) (cells' := cz + 8 + 3) (slots' := 8 * (cz + 8) + 18) (As := [.ref v0, .int v3, .int ((3 : Int32))]) (rest := []) (c_L_reads l G A hl0 kd hkd v0 v3 (3 : Int32) μ143 _ hw19) (gk_L_reads wt_3_81) hd_L_reads (rmL_fit (k1 := 78) (k := 79) (by omega) (by decide)) rfl rfl (Nat.le_of_ble_eq_true rfl) dL_holds_250 rfl ⟨by show _ ≤ 1000; omega, by show _ ≤ 8000; omega⟩ rfl rfl (fun r146 μ149 hw20 => ?_)
          refine j_widen (k1 := cz + 11) (n1 := 8 * (cz + 11)) (by omega) (by omega) ?_
          refine j_iload X (pc' := 255) (i := 4) 5 rfl dL_holds_253 rfl ?_
          refine j_icmp_ne X (pc' := 258) (tgt := 309) dL_holds_255 rfl (by decide) (fun c150 => ?_) (fun c150 => ?_)
          · have hw21 := hw20.1 c150
            refine j_loc [2, 3, 4, 0] rfl ?_
            exact tb_L_holds_309 X hl0 hkd _ _ _ _ _ _ hw21
          · have hw22 := hw20.2 c150
            refine j_aload_n X (pc' := 259) (kk := 0) (i := 0) 2 rfl rfl dL_holds_258 rfl ?_
            refine j_iload_n X (pc' := 260) (kk := 3) (i := 3) 4 rfl rfl dL_holds_259 rfl ?_
            obtain ⟨hz151, hw23⟩ := hw22
            refine j_callSWi X (pc' := 263) (cells' := cz + 11 + 1) (slots' := 8 * (cz + 11) + 6) (As := [.ref v0, .int v3]) (rest := []) (c_L_wrong l G A hl0 kd hkd v0 v3 μ149 _ hw23) (gk_L_wrong wt_2_225) hd_L_wrong (rmL_fit (k1 := 77) (k := 79) (by omega) (by decide)) rfl rfl (Nat.le_of_ble_eq_true rfl) dL_holds_260 rfl ⟨by show _ ≤ 1000; omega, by show _ ≤ 8000; omega⟩ rfl rfl (fun r152 μ155 hw24 => ?_)
            refine j_widen (k1 := cz + 12) (n1 := 8 * (cz + 12)) (by omega) (by omega) ?_
            refine j_iconst X (pc' := 264) (v := (-1)) (by decide) dL_holds_263 rfl ?_
            refine j_icmp_ne X (pc' := 267) (tgt := 309) dL_holds_264 rfl (by decide) (fun c156 => ?_) (fun c156 => ?_)
            · have hw25 := hw24.1 c156
              refine j_loc [2, 3, 4, 0] rfl ?_
              exact tb_L_holds_309 X hl0 hkd _ _ _ _ _ _ hw25
            · have hw26 := hw24.2 c156
              refine j_iload X (pc' := 269) (i := 4) 5 rfl dL_holds_267 rfl ?_
              refine j_if_eq X (pc' := 272) (tgt := 295) dL_holds_269 rfl (by decide) (fun c157 => ?_) (fun c157 => ?_)
              · have hw27 := hw26.1 c157
                refine j_loc [2, 3, 4, 0] rfl ?_
                exact tb_L_holds_295 X hl0 hkd _ _ _ _ _ _ hw27
              · have hw28 := hw26.2 c157
                refine j_aload_n X (pc' := 273) (kk := 0) (i := 0) 2 rfl rfl dL_holds_272 rfl ?_
                refine j_iconst X (pc' := 274) (v := 0) (by decide) dL_holds_273 rfl ?_
                obtain ⟨hz158, hw29⟩ := hw28
                refine j_callSWi X (pc' := 277) (cells' := cz + 12 + 1) (slots' := 8 * (cz + 12) + 6) (As := [.ref v0, .int ((0 : Int32))]) (rest := []) (c_L_told l G A hl0 v0 (0 : Int32) μ155 _ hw29) (gk_L_told wt_2_205) hd_L_told (rmL_fit (k1 := 2) (k := 79) (by omega) (by decide)) rfl rfl (Nat.le_of_ble_eq_true rfl) dL_holds_274 rfl ⟨by show _ ≤ 1000; omega, by show _ ≤ 8000; omega⟩ rfl rfl (fun r159 μ162 hw30 => ?_)
                refine j_widen (k1 := cz + 13) (n1 := 8 * (cz + 13)) (by omega) (by omega) ?_
                refine j_iload X (pc' := 279) (i := 5) 6 rfl dL_holds_277 rfl ?_
                refine j_icmp_ne X (pc' := 282) (tgt := 309) dL_holds_279 rfl (by decide) (fun c163 => ?_) (fun c163 => ?_)
                · have hw31 := hw30.1 c163
                  refine j_loc [2, 3, 4, 0] rfl ?_
                  exact tb_L_holds_309 X hl0 hkd _ _ _ _ _ _ hw31
                · have hw32 := hw30.2 c163
                  refine j_aload_n X (pc' := 283) (kk := 0) (i := 0) 2 rfl rfl dL_holds_282 rfl ?_
                  refine j_iload X (pc' := 285) (i := 4) 5 rfl dL_holds_283 rfl ?_
                  refine j_iconst X (pc' := 286) (v := 1) (by decide) dL_holds_285 rfl ?_
                  refine j_isub X (pc' := 287) dL_holds_286 rfl ?_
                  obtain ⟨hz164, hw33⟩ := hw32
                  refine j_callSWi X (pc' := 290) (cells' := cz + 13 + 1) (slots' := 8 * (cz + 13) + 6) (As := [.ref v0, .int (v4 - (1 : Int32))]) (rest := []) (c_L_told l G A hl0 v0 (v4 - (1 : Int32)) μ162 _ hw33) (gk_L_told wt_2_205) hd_L_told (rmL_fit (k1 := 2) (k := 79) (by omega) (by decide)) rfl rfl (Nat.le_of_ble_eq_true rfl) dL_holds_287 rfl ⟨by show _ ≤ 1000; omega, by show _ ≤ 8000; omega⟩ rfl rfl (fun r165 μ168 hw34 => ?_)
                  refine j_widen (k1 := cz + 14) (n1 := 8 * (cz + 14)) (by omega) (by omega) ?_
                  refine j_iload X (pc' := 292) (i := 6) 1 rfl dL_holds_290 rfl ?_
                  refine j_icmp_ne X (pc' := 295) (tgt := 309) dL_holds_292 rfl (by decide) (fun c169 => ?_) (fun c169 => ?_)
                  · have hw35 := hw34.1 c169
                    refine j_loc [2, 3, 4, 0] rfl ?_
                    exact tb_L_holds_309 X hl0 hkd _ _ _ _ _ _ hw35
                  · have hw36 := hw34.2 c169
                    refine j_loc [2, 3, 4, 0] rfl ?_
                    exact tb_L_holds_295 X hl0 hkd _ _ _ _ _ _ hw36
def wb_L_holds_177 (kd : Nat → Nat) (post : Int32 → Mm → Prop)  (v0 : Nat) (v1 : Int32) (v3 : Int32) (v4 : Int32) (s0 : Int32) (μ : Mm) (cz : Nat) : Prop := (¬ v4 = 0 → (cz + 1 ≤ 1000 ∧ wp_L_told v0 (v4 - (1 : Int32)) μ (fun r112 μ115 => wb_L_holds_196 kd post v0 v1 v3 v4 s0 r112 μ115 (cz + 1)))) ∧ (v4 = 0 → (wb_L_holds_196 kd post v0 v1 v3 v4 s0 (0 : Int32) μ cz))
set_option maxHeartbeats 4000000 in
set_option maxRecDepth 100000 in
theorem tb_L_holds_177 {p : Program} {l : Launch} {e : Env} {s : State} {m : MethodId} {args : Array Value} {below : List Frame} {meth : Method} {c : Code} {G : gG} {A : Nat → Prop} {kd : Nat → Nat} {post : Int32 → Mm → Prop} (X : Cx p l s m args meth c cL_holds 12 (some .boolean) RL G A) (hl0 : l.stackTraces = false) (hkd : G.2.2 = kd) : ∀ (v0 : Nat) (v1 : Int32) (v3 : Int32) (v4 : Int32) (s0 : Int32) (μ : Mm) (cz : Nat), wb_L_holds_177 kd post v0 v1 v3 v4 s0 μ cz → J p l e (rmL (79) 1000 8000) s m args below meth c 12 G A (MQ below (QG G A (pI post)) args s 1000 8000 A) cz (8 * cz) 177 [(0, .ref v0), (1, .int v1), (3, .int v3), (4, .int v4)] [.int s0] μ := by
  intro v0 v1 v3 v4 s0 μ cz hw
  unfold wb_L_holds_177 at hw
  refine j_istore X (pc' := 179) (i := 5) (loc' := [(5, .int s0), (0, .ref v0), (1, .int v1), (3, .int v3), (4, .int v4)]) dL_holds_177 rfl (by decide) rfl ?_
  refine j_iload X (pc' := 181) (i := 4) 4 rfl dL_holds_179 rfl ?_
  refine j_if_ne X (pc' := 184) (tgt := 188) dL_holds_181 rfl (by decide) (fun c110 => ?_) (fun c110 => ?_)
  · have hw1 := hw.1 c110
    refine j_aload_n X (pc' := 189) (kk := 0) (i := 0) 1 rfl rfl dL_holds_188 rfl ?_
    refine j_iload X (pc' := 191) (i := 4) 4 rfl dL_holds_189 rfl ?_
    refine j_iconst X (pc' := 192) (v := 1) (by decide) dL_holds_191 rfl ?_
    refine j_isub X (pc' := 193) dL_holds_192 rfl ?_
    obtain ⟨hz111, hw2⟩ := hw1
    refine j_callSWi X (pc' := 196) (cells' := cz + 1) (slots' := 8 * (cz) + 6) (As := [.ref v0, .int (v4 - (1 : Int32))]) (rest := []) (c_L_told l G A hl0 v0 (v4 - (1 : Int32)) μ _ hw2) (gk_L_told wt_2_205) hd_L_told (rmL_fit (k1 := 2) (k := 79) (by omega) (by decide)) rfl rfl (Nat.le_of_ble_eq_true rfl) dL_holds_193 rfl ⟨by show _ ≤ 1000; omega, by show _ ≤ 8000; omega⟩ rfl rfl (fun r112 μ115 hw3 => ?_)
    refine j_widen (k1 := cz + 1) (n1 := 8 * (cz + 1)) (by omega) (by omega) ?_
    refine j_loc [1, 2, 3, 4, 0] rfl ?_
    exact tb_L_holds_196 X hl0 hkd _ _ _ _ _ _ _ _ hw3
  · have hw4 := hw.2 c110
    refine j_iconst X (pc' := 185) (v := 0) (by decide) dL_holds_184 rfl ?_
    refine j_goto X (tgt := 196) dL_holds_185 (by decide) ?_
    refine j_loc [1, 2, 3, 4, 0] rfl ?_
    exact tb_L_holds_196 X hl0 hkd _ _ _ _ _ _ _ _ hw4
def wb_L_holds_136 (kd : Nat → Nat) (post : Int32 → Mm → Prop)  (v0 : Nat) (v1 : Int32) (v2 : Int32) (s0 : Int32) (μ : Mm) (cz : Nat) : Prop := (v2 = 0 → (cz ≤ 1000 ∧ (v2 = 0 ∨ v2 = 1) ∧ post v2 μ)) ∧ (¬ v2 = 0 → (cz ≤ 1000 ∧ (∃ f88, μ v0 = some (.inl (5, f88))) ∧ wp_X6_types v0 μ (fun r86 μ89 => (r86 ≤ 0 → (cz ≤ 1000 ∧ (v2 = 0 ∨ v2 = 1) ∧ post v2 μ89)) ∧ (¬ r86 ≤ 0 → (cz + 1 ≤ 1000 ∧ wp_L_wrong kd v0 s0 μ89 (fun r93 μ96 => (¬ r93 = (-1 : Int32) → (cz + 1 ≤ 1000 ∧ (v2 = 0 ∨ v2 = 1) ∧ post v2 μ96)) ∧ (r93 = (-1 : Int32) → (cz + 1 ≤ 1000 ∧ (∃ f102, μ96 v0 = some (.inl (5, f102))) ∧ wp_X6_length v0 μ96 (fun r100 μ103 => (¬ r100 = 0 → (cz + 2 ≤ 1000 ∧ wp_L_told v0 (0 : Int32) μ103 (fun r106 μ109 => wb_L_holds_177 kd post v0 v1 s0 r100 r106 μ109 (cz + 2)))) ∧ (r100 = 0 → (wb_L_holds_177 kd post v0 v1 s0 r100 (0 : Int32) μ103 (cz + 1))))))))))))
set_option maxHeartbeats 4000000 in
set_option maxRecDepth 100000 in
theorem tb_L_holds_136 {p : Program} {l : Launch} {e : Env} {s : State} {m : MethodId} {args : Array Value} {below : List Frame} {meth : Method} {c : Code} {G : gG} {A : Nat → Prop} {kd : Nat → Nat} {post : Int32 → Mm → Prop} (X : Cx p l s m args meth c cL_holds 12 (some .boolean) RL G A) (hl0 : l.stackTraces = false) (hkd : G.2.2 = kd) : ∀ (v0 : Nat) (v1 : Int32) (v2 : Int32) (s0 : Int32) (μ : Mm) (cz : Nat), wb_L_holds_136 kd post v0 v1 v2 s0 μ cz → J p l e (rmL (79) 1000 8000) s m args below meth c 12 G A (MQ below (QG G A (pI post)) args s 1000 8000 A) cz (8 * cz) 136 [(0, .ref v0), (1, .int v1), (2, .int v2)] [.int s0] μ := by
  intro v0 v1 v2 s0 μ cz hw
  unfold wb_L_holds_136 at hw
  refine j_istore_n X (pc' := 137) (kk := 3) (i := 3) (loc' := [(3, .int s0), (0, .ref v0), (1, .int v1), (2, .int v2)]) dL_holds_136 rfl rfl (by decide) rfl ?_
  refine j_iload_n X (pc' := 138) (kk := 2) (i := 2) 3 rfl rfl dL_holds_137 rfl ?_
  refine j_if_eq X (pc' := 141) (tgt := 595) dL_holds_138 rfl (by decide) (fun c83 => ?_) (fun c83 => ?_)
  · have hw1 := hw.1 c83
    refine j_iload_n X (pc' := 596) (kk := 2) (i := 2) 3 rfl rfl dL_holds_595 rfl ?_
    obtain ⟨hz84, hw2⟩ := hw1
    have hb := hw2.1
    have hw3 := hw2.2
    exact j_zret X hb ⟨_, rfl, hw3⟩ (by omega) (by omega) dL_holds_596
  · have hw4 := hw.2 c83
    refine j_aload_n X (pc' := 142) (kk := 0) (i := 0) 1 rfl rfl dL_holds_141 rfl ?_
    obtain ⟨hz85, hw5⟩ := hw4
    obtain ⟨⟨f88, hm87⟩, hw6⟩ := hw5
    refine j_callVi X (pc' := 145) (cells' := cz + 0) (slots' := 8 * (cz) + 0) (As := []) (rest := []) (c_X6_types l G A v0 μ _ hw6) (gk_X6_types wt_1_128) hd_X6_types (rmL_fit (k1 := 1) (k := 79) (by omega) (by decide)) hm87 rfl rfl rfl (Nat.le_of_ble_eq_true rfl) dL_holds_142 rfl ⟨by show _ ≤ 1000; omega, by show _ ≤ 8000; omega⟩ rfl rfl (fun r86 μ89 hw7 => ?_)
    refine j_widen (k1 := cz) (n1 := 8 * (cz)) (by omega) (by omega) ?_
    refine j_if_le X (pc' := 148) (tgt := 595) dL_holds_145 rfl (by decide) (fun c90 => ?_) (fun c90 => ?_)
    · have hw8 := hw7.1 c90
      refine j_iload_n X (pc' := 596) (kk := 2) (i := 2) 3 rfl rfl dL_holds_595 rfl ?_
      obtain ⟨hz91, hw9⟩ := hw8
      have hb := hw9.1
      have hw10 := hw9.2
      exact j_zret X hb ⟨_, rfl, hw10⟩ (by omega) (by omega) dL_holds_596
    · have hw11 := hw7.2 c90
      refine j_aload_n X (pc' := 149) (kk := 0) (i := 0) 1 rfl rfl dL_holds_148 rfl ?_
      refine j_iload_n X (pc' := 150) (kk := 3) (i := 3) 0 rfl rfl dL_holds_149 rfl ?_
      obtain ⟨hz92, hw12⟩ := hw11
      refine j_callSWi X (pc' := 153) (cells' := cz + 1) (slots' := 8 * (cz) + 6) (As := [.ref v0, .int s0]) (rest := []) (c_L_wrong l G A hl0 kd hkd v0 s0 μ89 _ hw12) (gk_L_wrong wt_2_225) hd_L_wrong (rmL_fit (k1 := 77) (k := 79) (by omega) (by decide)) rfl rfl (Nat.le_of_ble_eq_true rfl) dL_holds_150 rfl ⟨by show _ ≤ 1000; omega, by show _ ≤ 8000; omega⟩ rfl rfl (fun r93 μ96 hw13 => ?_)
      refine j_widen (k1 := cz + 1) (n1 := 8 * (cz + 1)) (by omega) (by omega) ?_
      refine j_iconst X (pc' := 154) (v := (-1)) (by decide) dL_holds_153 rfl ?_
      refine j_icmp_ne X (pc' := 157) (tgt := 595) dL_holds_154 rfl (by decide) (fun c97 => ?_) (fun c97 => ?_)
      · have hw14 := hw13.1 c97
        refine j_iload_n X (pc' := 596) (kk := 2) (i := 2) 3 rfl rfl dL_holds_595 rfl ?_
        obtain ⟨hz98, hw15⟩ := hw14
        have hb := hw15.1
        have hw16 := hw15.2
        exact j_zret X hb ⟨_, rfl, hw16⟩ (by omega) (by omega) dL_holds_596
      · have hw17 := hw13.2 c97
        refine j_aload_n X (pc' := 158) (kk := 0) (i := 0) 1 rfl rfl dL_holds_157 rfl ?_
        obtain ⟨hz99, hw18⟩ := hw17
        obtain ⟨⟨f102, hm101⟩, hw19⟩ := hw18
        refine j_callVi X (pc' := 161) (cells' := cz + 1 + 0) (slots' := 8 * (cz + 1) + 0) (As := []) (rest := []) (c_X6_length l G A v0 μ96 _ hw19) (gk_X6_length wt_2_221) hd_X6_length (rmL_fit (k1 := 1) (k := 79) (by omega) (by decide)) hm101 rfl rfl rfl (Nat.le_of_ble_eq_true rfl) dL_holds_158 rfl ⟨by show _ ≤ 1000; omega, by show _ ≤ 8000; omega⟩ rfl rfl (fun r100 μ103 hw20 => ?_)
        refine j_widen (k1 := cz + 1) (n1 := 8 * (cz + 1)) (by omega) (by omega) ?_
        refine j_istore X (pc' := 163) (i := 4) (loc' := [(4, .int r100), (3, .int s0), (0, .ref v0), (1, .int v1), (2, .int v2)]) dL_holds_161 rfl (by decide) rfl ?_
        refine j_iload X (pc' := 165) (i := 4) 0 rfl dL_holds_163 rfl ?_
        refine j_if_ne X (pc' := 168) (tgt := 172) dL_holds_165 rfl (by decide) (fun c104 => ?_) (fun c104 => ?_)
        · have hw21 := hw20.1 c104
          refine j_aload_n X (pc' := 173) (kk := 0) (i := 0) 2 rfl rfl dL_holds_172 rfl ?_
          refine j_iconst X (pc' := 174) (v := 0) (by decide) dL_holds_173 rfl ?_
          obtain ⟨hz105, hw22⟩ := hw21
          refine j_callSWi X (pc' := 177) (cells' := cz + 1 + 1) (slots' := 8 * (cz + 1) + 6) (As := [.ref v0, .int ((0 : Int32))]) (rest := []) (c_L_told l G A hl0 v0 (0 : Int32) μ103 _ hw22) (gk_L_told wt_2_205) hd_L_told (rmL_fit (k1 := 2) (k := 79) (by omega) (by decide)) rfl rfl (Nat.le_of_ble_eq_true rfl) dL_holds_174 rfl ⟨by show _ ≤ 1000; omega, by show _ ≤ 8000; omega⟩ rfl rfl (fun r106 μ109 hw23 => ?_)
          refine j_widen (k1 := cz + 2) (n1 := 8 * (cz + 2)) (by omega) (by omega) ?_
          refine j_loc [2, 3, 1, 0] rfl ?_
          exact tb_L_holds_177 X hl0 hkd _ _ _ _ _ _ _ hw23
        · have hw24 := hw20.2 c104
          refine j_iconst X (pc' := 169) (v := 0) (by decide) dL_holds_168 rfl ?_
          refine j_goto X (tgt := 177) dL_holds_169 (by decide) ?_
          refine j_loc [2, 3, 1, 0] rfl ?_
          exact tb_L_holds_177 X hl0 hkd _ _ _ _ _ _ _ hw24
def wb_L_holds_119 (kd : Nat → Nat) (post : Int32 → Mm → Prop)  (v0 : Nat) (v1 : Int32) (v2 : Int32) (μ : Mm) (cz : Nat) : Prop := cz ≤ 1000 ∧ (∃ f74, μ v0 = some (.inl (5, f74))) ∧ wp_X6_types v0 μ (fun r72 μ75 => (¬ r72 = 0 → (cz ≤ 1000 ∧ (∃ f80, μ75 v0 = some (.inl (5, f80))) ∧ wp_X6_types v0 μ75 (fun r78 μ81 => ¬ r78 = 0 ∧ wb_L_holds_136 kd post v0 v1 v2 (v1 - v1 / r78 * r78) μ81 cz))) ∧ (r72 = 0 → (wb_L_holds_136 kd post v0 v1 v2 (0 : Int32) μ75 cz)))
set_option maxHeartbeats 4000000 in
set_option maxRecDepth 100000 in
theorem tb_L_holds_119 {p : Program} {l : Launch} {e : Env} {s : State} {m : MethodId} {args : Array Value} {below : List Frame} {meth : Method} {c : Code} {G : gG} {A : Nat → Prop} {kd : Nat → Nat} {post : Int32 → Mm → Prop} (X : Cx p l s m args meth c cL_holds 12 (some .boolean) RL G A) (hl0 : l.stackTraces = false) (hkd : G.2.2 = kd) : ∀ (v0 : Nat) (v1 : Int32) (v2 : Int32) (μ : Mm) (cz : Nat), wb_L_holds_119 kd post v0 v1 v2 μ cz → J p l e (rmL (79) 1000 8000) s m args below meth c 12 G A (MQ below (QG G A (pI post)) args s 1000 8000 A) cz (8 * cz) 119 [(0, .ref v0), (1, .int v1), (2, .int v2)] [] μ := by
  intro v0 v1 v2 μ cz hw
  unfold wb_L_holds_119 at hw
  refine j_aload_n X (pc' := 120) (kk := 0) (i := 0) 0 rfl rfl dL_holds_119 rfl ?_
  obtain ⟨hz71, hw1⟩ := hw
  obtain ⟨⟨f74, hm73⟩, hw2⟩ := hw1
  refine j_callVi X (pc' := 123) (cells' := cz + 0) (slots' := 8 * (cz) + 0) (As := []) (rest := []) (c_X6_types l G A v0 μ _ hw2) (gk_X6_types wt_1_128) hd_X6_types (rmL_fit (k1 := 1) (k := 79) (by omega) (by decide)) hm73 rfl rfl rfl (Nat.le_of_ble_eq_true rfl) dL_holds_120 rfl ⟨by show _ ≤ 1000; omega, by show _ ≤ 8000; omega⟩ rfl rfl (fun r72 μ75 hw3 => ?_)
  refine j_widen (k1 := cz) (n1 := 8 * (cz)) (by omega) (by omega) ?_
  refine j_if_ne X (pc' := 126) (tgt := 130) dL_holds_123 rfl (by decide) (fun c76 => ?_) (fun c76 => ?_)
  · have hw4 := hw3.1 c76
    refine j_iload_n X (pc' := 131) (kk := 1) (i := 1) 1 rfl rfl dL_holds_130 rfl ?_
    refine j_aload_n X (pc' := 132) (kk := 0) (i := 0) 0 rfl rfl dL_holds_131 rfl ?_
    obtain ⟨hz77, hw5⟩ := hw4
    obtain ⟨⟨f80, hm79⟩, hw6⟩ := hw5
    refine j_callVi X (pc' := 135) (cells' := cz + 0) (slots' := 8 * (cz) + 0) (As := []) (rest := [.int v1]) (c_X6_types l G A v0 μ75 _ hw6) (gk_X6_types wt_1_128) hd_X6_types (rmL_fit (k1 := 1) (k := 79) (by omega) (by decide)) hm79 rfl rfl rfl (Nat.le_of_ble_eq_true rfl) dL_holds_132 rfl ⟨by show _ ≤ 1000; omega, by show _ ≤ 8000; omega⟩ rfl rfl (fun r78 μ81 hw7 => ?_)
    refine j_widen (k1 := cz) (n1 := 8 * (cz)) (by omega) (by omega) ?_
    obtain ⟨h82, hw8⟩ := hw7
    refine j_irem X (pc' := 136) h82 dL_holds_135 rfl ?_
    exact tb_L_holds_136 X hl0 hkd _ _ _ _ _ _ hw8
  · have hw9 := hw3.2 c76
    refine j_iconst X (pc' := 127) (v := 0) (by decide) dL_holds_126 rfl ?_
    refine j_goto X (tgt := 136) dL_holds_127 (by decide) ?_
    exact tb_L_holds_136 X hl0 hkd _ _ _ _ _ _ hw9
def wb_L_holds_112 (kd : Nat → Nat) (post : Int32 → Mm → Prop) (K28 : Nat → Int32 → Int32 → Int32 → Mm → Nat → Prop) (v0 : Nat) (v1 : Int32) (v3 : Int32) (s0 : Int32) (μ : Mm) (cz : Nat) : Prop := K28 v0 v1 s0 (v3 + 1) μ cz
set_option maxHeartbeats 4000000 in
set_option maxRecDepth 100000 in
theorem tb_L_holds_112 {p : Program} {l : Launch} {e : Env} {s : State} {m : MethodId} {args : Array Value} {below : List Frame} {meth : Method} {c : Code} {G : gG} {A : Nat → Prop} {kd : Nat → Nat} {post : Int32 → Mm → Prop} {K28 : Nat → Int32 → Int32 → Int32 → Mm → Nat → Prop} (X : Cx p l s m args meth c cL_holds 12 (some .boolean) RL G A) (hl0 : l.stackTraces = false) (hkd : G.2.2 = kd) (hK28 : ∀ (v0 : Nat) (v1 : Int32) (v2 : Int32) (v3 : Int32) (μ : Mm) (cz : Nat), K28 v0 v1 v2 v3 μ cz → J p l e (rmL (79) 1000 8000) s m args below meth c 12 G A (MQ below (QG G A (pI post)) args s 1000 8000 A) cz (8 * cz) 28 [(0, .ref v0), (1, .int v1), (2, .int v2), (3, .int v3)] [] μ) : ∀ (v0 : Nat) (v1 : Int32) (v3 : Int32) (s0 : Int32) (μ : Mm) (cz : Nat), wb_L_holds_112 kd post K28 v0 v1 v3 s0 μ cz → J p l e (rmL (79) 1000 8000) s m args below meth c 12 G A (MQ below (QG G A (pI post)) args s 1000 8000 A) cz (8 * cz) 112 [(0, .ref v0), (1, .int v1), (3, .int v3)] [.int s0] μ := by
  intro v0 v1 v3 s0 μ cz hw
  unfold wb_L_holds_112 at hw
  refine j_istore_n X (pc' := 113) (kk := 2) (i := 2) (loc' := [(2, .int s0), (0, .ref v0), (1, .int v1), (3, .int v3)]) dL_holds_112 rfl rfl (by decide) rfl ?_
  refine j_iinc X (pc' := 116) (i := 3) (v := v3 + 1) (loc' := [(3, .int (v3 + 1)), (2, .int s0), (0, .ref v0), (1, .int v1)]) 3 rfl rfl dL_holds_113 rfl (by decide) rfl ?_
  refine j_goto X (tgt := 28) dL_holds_116 (by decide) ?_
  refine j_loc [2, 3, 1, 0] rfl ?_
  exact hK28 _ _ _ _ _ _ hw
def wb_L_holds_111 (kd : Nat → Nat) (post : Int32 → Mm → Prop) (K28 : Nat → Int32 → Int32 → Int32 → Mm → Nat → Prop) (v0 : Nat) (v1 : Int32) (v3 : Int32) (μ : Mm) (cz : Nat) : Prop := wb_L_holds_112 kd post K28 v0 v1 v3 (0 : Int32) μ cz
set_option maxHeartbeats 4000000 in
set_option maxRecDepth 100000 in
theorem tb_L_holds_111 {p : Program} {l : Launch} {e : Env} {s : State} {m : MethodId} {args : Array Value} {below : List Frame} {meth : Method} {c : Code} {G : gG} {A : Nat → Prop} {kd : Nat → Nat} {post : Int32 → Mm → Prop} {K28 : Nat → Int32 → Int32 → Int32 → Mm → Nat → Prop} (X : Cx p l s m args meth c cL_holds 12 (some .boolean) RL G A) (hl0 : l.stackTraces = false) (hkd : G.2.2 = kd) (hK28 : ∀ (v0 : Nat) (v1 : Int32) (v2 : Int32) (v3 : Int32) (μ : Mm) (cz : Nat), K28 v0 v1 v2 v3 μ cz → J p l e (rmL (79) 1000 8000) s m args below meth c 12 G A (MQ below (QG G A (pI post)) args s 1000 8000 A) cz (8 * cz) 28 [(0, .ref v0), (1, .int v1), (2, .int v2), (3, .int v3)] [] μ) : ∀ (v0 : Nat) (v1 : Int32) (v3 : Int32) (μ : Mm) (cz : Nat), wb_L_holds_111 kd post K28 v0 v1 v3 μ cz → J p l e (rmL (79) 1000 8000) s m args below meth c 12 G A (MQ below (QG G A (pI post)) args s 1000 8000 A) cz (8 * cz) 111 [(0, .ref v0), (1, .int v1), (3, .int v3)] [] μ := by
  intro v0 v1 v3 μ cz hw
  unfold wb_L_holds_111 at hw
  refine j_iconst X (pc' := 112) (v := 0) (by decide) dL_holds_111 rfl ?_
  exact tb_L_holds_112 X hl0 hkd hK28 _ _ _ _ _ _ hw
def wb_L_holds_28 (kd : Nat → Nat) (post : Int32 → Mm → Prop)  : Nat → Nat → Int32 → Int32 → Int32 → Mm → Nat → Prop
  | 0 => fun _ _ _ _ _ _ => False
  | n + 1 => fun v0 v1 v2 v3 μ cz => cz ≤ 1000 ∧ (∃ f16, μ v0 = some (.inl (5, f16))) ∧ wp_X6_types v0 μ (fun r14 μ17 => (r14 ≤ v3 → (wb_L_holds_119 kd post v0 v1 v2 μ17 cz)) ∧ (¬ r14 ≤ v3 → ((v2 = 0 → (wb_L_holds_119 kd post v0 v1 v2 μ17 cz)) ∧ (¬ v2 = 0 → (cz + 1 ≤ 1000 ∧ wp_L_least v0 v3 μ17 (fun r21 μ24 => (r21 < 0 → (wb_L_holds_111 kd post (wb_L_holds_28 kd post n) v0 v1 v3 μ24 (cz + 1))) ∧ (¬ r21 < 0 → (cz + 2 ≤ 1000 ∧ wp_L_least v0 v3 μ24 (fun r27 μ30 => cz + 3 ≤ 1000 ∧ wp_L_most v0 v3 μ30 (fun r32 μ35 => (r32 < r27 → (wb_L_holds_111 kd post (wb_L_holds_28 kd post n) v0 v1 v3 μ35 (cz + 3))) ∧ (¬ r32 < r27 → (cz + 4 ≤ 1000 ∧ wp_L_most v0 v3 μ35 (fun r38 μ41 => ((240 : Int32) < r38 → (wb_L_holds_111 kd post (wb_L_holds_28 kd post n) v0 v1 v3 μ41 (cz + 4))) ∧ (¬ (240 : Int32) < r38 → (cz + 6 ≤ 1000 ∧ wp_L_fault kd v0 v3 (3 : Int32) μ41 (fun r44 μ47 => (r44 < (-1 : Int32) → (wb_L_holds_111 kd post (wb_L_holds_28 kd post n) v0 v1 v3 μ47 (cz + 6))) ∧ (¬ r44 < (-1 : Int32) → (cz + 8 ≤ 1000 ∧ wp_L_fault kd v0 v3 (3 : Int32) μ47 (fun r50 μ53 => cz + 8 ≤ 1000 ∧ (∃ f57, μ53 v0 = some (.inl (5, f57))) ∧ wp_X6_bits v0 μ53 (fun r55 μ58 => (r55 < r50 → (wb_L_holds_111 kd post (wb_L_holds_28 kd post n) v0 v1 v3 μ58 (cz + 8))) ∧ (¬ r55 < r50 → (cz + 9 ≤ 1000 ∧ wp_L_wrong kd v0 v3 μ58 (fun r61 μ64 => cz + 9 ≤ 1000 ∧ (∃ f68, μ64 v0 = some (.inl (5, f68))) ∧ wp_X6_length v0 μ64 (fun r66 μ69 => (r66 < r61 → (wb_L_holds_111 kd post (wb_L_holds_28 kd post n) v0 v1 v3 μ69 (cz + 9))) ∧ (¬ r66 < r61 → (wb_L_holds_112 kd post (wb_L_holds_28 kd post n) v0 v1 v3 (1 : Int32) μ69 (cz + 9)))))))))))))))))))))))))))
set_option maxHeartbeats 4000000 in
set_option maxRecDepth 100000 in
theorem tb_L_holds_28 {p : Program} {l : Launch} {e : Env} {s : State} {m : MethodId} {args : Array Value} {below : List Frame} {meth : Method} {c : Code} {G : gG} {A : Nat → Prop} {kd : Nat → Nat} {post : Int32 → Mm → Prop} (X : Cx p l s m args meth c cL_holds 12 (some .boolean) RL G A) (hl0 : l.stackTraces = false) (hkd : G.2.2 = kd) : ∀ (n : Nat) (v0 : Nat) (v1 : Int32) (v2 : Int32) (v3 : Int32) (μ : Mm) (cz : Nat), wb_L_holds_28 kd post n v0 v1 v2 v3 μ cz → J p l e (rmL (79) 1000 8000) s m args below meth c 12 G A (MQ below (QG G A (pI post)) args s 1000 8000 A) cz (8 * cz) 28 [(0, .ref v0), (1, .int v1), (2, .int v2), (3, .int v3)] [] μ := by
  intro n
  induction n with
  | zero => intro v0 v1 v2 v3 μ cz hw; exact hw.elim
  | succ n ih =>
    intro v0 v1 v2 v3 μ cz hw
    rw [wb_L_holds_28] at hw
    refine j_iload_n X (pc' := 29) (kk := 3) (i := 3) 3 rfl rfl dL_holds_28 rfl ?_
    refine j_aload_n X (pc' := 30) (kk := 0) (i := 0) 0 rfl rfl dL_holds_29 rfl ?_
    obtain ⟨hz13, hw1⟩ := hw
    obtain ⟨⟨f16, hm15⟩, hw2⟩ := hw1
    refine j_callVi X (pc' := 33) (cells' := cz + 0) (slots' := 8 * (cz) + 0) (As := []) (rest := [.int v3]) (c_X6_types l G A v0 μ _ hw2) (gk_X6_types wt_1_128) hd_X6_types (rmL_fit (k1 := 1) (k := 79) (by omega) (by decide)) hm15 rfl rfl rfl (Nat.le_of_ble_eq_true rfl) dL_holds_30 rfl ⟨by show _ ≤ 1000; omega, by show _ ≤ 8000; omega⟩ rfl rfl (fun r14 μ17 hw3 => ?_)
    refine j_widen (k1 := cz) (n1 := 8 * (cz)) (by omega) (by omega) ?_
    refine j_icmp_ge X (pc' := 36) (tgt := 119) dL_holds_33 rfl (by decide) (fun c18 => ?_) (fun c18 => ?_)
    · have hw4 := hw3.1 c18
      refine j_loc [0, 1, 2] rfl ?_
      exact tb_L_holds_119 X hl0 hkd _ _ _ _ _ hw4
    · have hw5 := hw3.2 c18
      refine j_iload_n X (pc' := 37) (kk := 2) (i := 2) 2 rfl rfl dL_holds_36 rfl ?_
      refine j_if_eq X (pc' := 40) (tgt := 119) dL_holds_37 rfl (by decide) (fun c19 => ?_) (fun c19 => ?_)
      · have hw6 := hw5.1 c19
        refine j_loc [0, 1, 2] rfl ?_
        exact tb_L_holds_119 X hl0 hkd _ _ _ _ _ hw6
      · have hw7 := hw5.2 c19
        refine j_aload_n X (pc' := 41) (kk := 0) (i := 0) 0 rfl rfl dL_holds_40 rfl ?_
        refine j_iload_n X (pc' := 42) (kk := 3) (i := 3) 3 rfl rfl dL_holds_41 rfl ?_
        obtain ⟨hz20, hw8⟩ := hw7
        refine j_callSWi X (pc' := 45) (cells' := cz + 1) (slots' := 8 * (cz) + 6) (As := [.ref v0, .int v3]) (rest := []) (c_L_least l G A hl0 v0 v3 μ17 _ hw8) (gk_L_least wt_2_174) hd_L_least (rmL_fit (k1 := 3) (k := 79) (by omega) (by decide)) rfl rfl (Nat.le_of_ble_eq_true rfl) dL_holds_42 rfl ⟨by show _ ≤ 1000; omega, by show _ ≤ 8000; omega⟩ rfl rfl (fun r21 μ24 hw9 => ?_)
        refine j_widen (k1 := cz + 1) (n1 := 8 * (cz + 1)) (by omega) (by omega) ?_
        refine j_if_lt X (pc' := 48) (tgt := 111) dL_holds_45 rfl (by decide) (fun c25 => ?_) (fun c25 => ?_)
        · have hw10 := hw9.1 c25
          refine j_loc [0, 1, 3] rfl ?_
          exact tb_L_holds_111 X hl0 hkd ih _ _ _ _ _ hw10
        · have hw11 := hw9.2 c25
          refine j_aload_n X (pc' := 49) (kk := 0) (i := 0) 0 rfl rfl dL_holds_48 rfl ?_
          refine j_iload_n X (pc' := 50) (kk := 3) (i := 3) 3 rfl rfl dL_holds_49 rfl ?_
          obtain ⟨hz26, hw12⟩ := hw11
          refine j_callSWi X (pc' := 53) (cells' := cz + 1 + 1) (slots' := 8 * (cz + 1) + 6) (As := [.ref v0, .int v3]) (rest := []) (c_L_least l G A hl0 v0 v3 μ24 _ hw12) (gk_L_least wt_2_174) hd_L_least (rmL_fit (k1 := 3) (k := 79) (by omega) (by decide)) rfl rfl (Nat.le_of_ble_eq_true rfl) dL_holds_50 rfl ⟨by show _ ≤ 1000; omega, by show _ ≤ 8000; omega⟩ rfl rfl (fun r27 μ30 hw13 => ?_)
          refine j_widen (k1 := cz + 2) (n1 := 8 * (cz + 2)) (by omega) (by omega) ?_
          refine j_aload_n X (pc' := 54) (kk := 0) (i := 0) 0 rfl rfl dL_holds_53 rfl ?_
          refine j_iload_n X (pc' := 55) (kk := 3) (i := 3) 3 rfl rfl dL_holds_54 rfl ?_
          obtain ⟨hz31, hw14⟩ := hw13
          refine j_callSWi X (pc' := 58) (cells' := cz + 2 + 1) (slots' := 8 * (cz + 2) + 6) (As := [.ref v0, .int v3]) (rest := [.int r27]) (c_L_most l G A hl0 v0 v3 μ30 _ hw14) (gk_L_most wt_2_181) hd_L_most (rmL_fit (k1 := 3) (k := 79) (by omega) (by decide)) rfl rfl (Nat.le_of_ble_eq_true rfl) dL_holds_55 rfl ⟨by show _ ≤ 1000; omega, by show _ ≤ 8000; omega⟩ rfl rfl (fun r32 μ35 hw15 => ?_)
          refine j_widen (k1 := cz + 3) (n1 := 8 * (cz + 3)) (by omega) (by omega) ?_
          refine j_icmp_gt X (pc' := 61) (tgt := 111) dL_holds_58 rfl (by decide) (fun c36 => ?_) (fun c36 => ?_)
          · have hw16 := hw15.1 c36
            refine j_loc [0, 1, 3] rfl ?_
            exact tb_L_holds_111 X hl0 hkd ih _ _ _ _ _ hw16
          · have hw17 := hw15.2 c36
            refine j_aload_n X (pc' := 62) (kk := 0) (i := 0) 0 rfl rfl dL_holds_61 rfl ?_
            refine j_iload_n X (pc' := 63) (kk := 3) (i := 3) 3 rfl rfl dL_holds_62 rfl ?_
            obtain ⟨hz37, hw18⟩ := hw17
            refine j_callSWi X (pc' := 66) (cells' := cz + 3 + 1) (slots' := 8 * (cz + 3) + 6) (As := [.ref v0, .int v3]) (rest := []) (c_L_most l G A hl0 v0 v3 μ35 _ hw18) (gk_L_most wt_2_181) hd_L_most (rmL_fit (k1 := 3) (k := 79) (by omega) (by decide)) rfl rfl (Nat.le_of_ble_eq_true rfl) dL_holds_63 rfl ⟨by show _ ≤ 1000; omega, by show _ ≤ 8000; omega⟩ rfl rfl (fun r38 μ41 hw19 => ?_)
            refine j_widen (k1 := cz + 4) (n1 := 8 * (cz + 4)) (by omega) (by omega) ?_
            refine j_sipush X (pc' := 69) (v := 240) (by decide) dL_holds_66 rfl ?_
            refine j_icmp_gt X (pc' := 72) (tgt := 111) dL_holds_69 rfl (by decide) (fun c42 => ?_) (fun c42 => ?_)
            · have hw20 := hw19.1 c42
              refine j_loc [0, 1, 3] rfl ?_
              exact tb_L_holds_111 X hl0 hkd ih _ _ _ _ _ hw20
            · have hw21 := hw19.2 c42
              refine j_aload_n X (pc' := 73) (kk := 0) (i := 0) 0 rfl rfl dL_holds_72 rfl ?_
              refine j_iload_n X (pc' := 74) (kk := 3) (i := 3) 3 rfl rfl dL_holds_73 rfl ?_
              refine j_iconst X (pc' := 75) (v := 3) (by decide) dL_holds_74 rfl ?_
              obtain ⟨hz43, hw22⟩ := hw21
              refine j_callSWi X (pc' := 78) (cells' := cz + 4 + 2) (slots' := 8 * (cz + 4) + 12) (As := [.ref v0, .int v3, .int ((3 : Int32))]) (rest := []) (c_L_fault l G A hl0 kd hkd v0 v3 (3 : Int32) μ41 _ hw22) (gk_L_fault wt_3_138) hd_L_fault (rmL_fit (k1 := 78) (k := 79) (by omega) (by decide)) rfl rfl (Nat.le_of_ble_eq_true rfl) dL_holds_75 rfl ⟨by show _ ≤ 1000; omega, by show _ ≤ 8000; omega⟩ rfl rfl (fun r44 μ47 hw23 => ?_)
              refine j_widen (k1 := cz + 6) (n1 := 8 * (cz + 6)) (by omega) (by omega) ?_
              refine j_iconst X (pc' := 79) (v := (-1)) (by decide) dL_holds_78 rfl ?_
              refine j_icmp_lt X (pc' := 82) (tgt := 111) dL_holds_79 rfl (by decide) (fun c48 => ?_) (fun c48 => ?_)
              · have hw24 := hw23.1 c48
                refine j_loc [0, 1, 3] rfl ?_
                exact tb_L_holds_111 X hl0 hkd ih _ _ _ _ _ hw24
              · have hw25 := hw23.2 c48
                refine j_aload_n X (pc' := 83) (kk := 0) (i := 0) 0 rfl rfl dL_holds_82 rfl ?_
                refine j_iload_n X (pc' := 84) (kk := 3) (i := 3) 3 rfl rfl dL_holds_83 rfl ?_
                refine j_iconst X (pc' := 85) (v := 3) (by decide) dL_holds_84 rfl ?_
                obtain ⟨hz49, hw26⟩ := hw25
                refine j_callSWi X (pc' := 88) (cells' := cz + 6 + 2) (slots' := 8 * (cz + 6) + 12) (As := [.ref v0, .int v3, .int ((3 : Int32))]) (rest := []) (c_L_fault l G A hl0 kd hkd v0 v3 (3 : Int32) μ47 _ hw26) (gk_L_fault wt_3_138) hd_L_fault (rmL_fit (k1 := 78) (k := 79) (by omega) (by decide)) rfl rfl (Nat.le_of_ble_eq_true rfl) dL_holds_85 rfl ⟨by show _ ≤ 1000; omega, by show _ ≤ 8000; omega⟩ rfl rfl (fun r50 μ53 hw27 => ?_)
                refine j_widen (k1 := cz + 8) (n1 := 8 * (cz + 8)) (by omega) (by omega) ?_
                refine j_aload_n X (pc' := 89) (kk := 0) (i := 0) 0 rfl rfl dL_holds_88 rfl ?_
                obtain ⟨hz54, hw28⟩ := hw27
                obtain ⟨⟨f57, hm56⟩, hw29⟩ := hw28
                refine j_callVi X (pc' := 92) (cells' := cz + 8 + 0) (slots' := 8 * (cz + 8) + 0) (As := []) (rest := [.int r50]) (c_X6_bits l G A v0 μ53 _ hw29) (gk_X6_bits wt_1_136) hd_X6_bits (rmL_fit (k1 := 1) (k := 79) (by omega) (by decide)) hm56 rfl rfl rfl (Nat.le_of_ble_eq_true rfl) dL_holds_89 rfl ⟨by show _ ≤ 1000; omega, by show _ ≤ 8000; omega⟩ rfl rfl (fun r55 μ58 hw30 => ?_)
                refine j_widen (k1 := cz + 8) (n1 := 8 * (cz + 8)) (by omega) (by omega) ?_
                refine j_icmp_gt X (pc' := 95) (tgt := 111) dL_holds_92 rfl (by decide) (fun c59 => ?_) (fun c59 => ?_)
                · have hw31 := hw30.1 c59
                  refine j_loc [0, 1, 3] rfl ?_
                  exact tb_L_holds_111 X hl0 hkd ih _ _ _ _ _ hw31
                · have hw32 := hw30.2 c59
                  refine j_aload_n X (pc' := 96) (kk := 0) (i := 0) 0 rfl rfl dL_holds_95 rfl ?_
                  refine j_iload_n X (pc' := 97) (kk := 3) (i := 3) 3 rfl rfl dL_holds_96 rfl ?_
                  obtain ⟨hz60, hw33⟩ := hw32
                  refine j_callSWi X (pc' := 100) (cells' := cz + 8 + 1) (slots' := 8 * (cz + 8) + 6) (As := [.ref v0, .int v3]) (rest := []) (c_L_wrong l G A hl0 kd hkd v0 v3 μ58 _ hw33) (gk_L_wrong wt_2_225) hd_L_wrong (rmL_fit (k1 := 77) (k := 79) (by omega) (by decide)) rfl rfl (Nat.le_of_ble_eq_true rfl) dL_holds_97 rfl ⟨by show _ ≤ 1000; omega, by show _ ≤ 8000; omega⟩ rfl rfl (fun r61 μ64 hw34 => ?_)
                  refine j_widen (k1 := cz + 9) (n1 := 8 * (cz + 9)) (by omega) (by omega) ?_
                  refine j_aload_n X (pc' := 101) (kk := 0) (i := 0) 0 rfl rfl dL_holds_100 rfl ?_
                  obtain ⟨hz65, hw35⟩ := hw34
                  obtain ⟨⟨f68, hm67⟩, hw36⟩ := hw35
                  refine j_callVi X (pc' := 104) (cells' := cz + 9 + 0) (slots' := 8 * (cz + 9) + 0) (As := []) (rest := [.int r61]) (c_X6_length l G A v0 μ64 _ hw36) (gk_X6_length wt_2_221) hd_X6_length (rmL_fit (k1 := 1) (k := 79) (by omega) (by decide)) hm67 rfl rfl rfl (Nat.le_of_ble_eq_true rfl) dL_holds_101 rfl ⟨by show _ ≤ 1000; omega, by show _ ≤ 8000; omega⟩ rfl rfl (fun r66 μ69 hw37 => ?_)
                  refine j_widen (k1 := cz + 9) (n1 := 8 * (cz + 9)) (by omega) (by omega) ?_
                  refine j_icmp_gt X (pc' := 107) (tgt := 111) dL_holds_104 rfl (by decide) (fun c70 => ?_) (fun c70 => ?_)
                  · have hw38 := hw37.1 c70
                    refine j_loc [0, 1, 3] rfl ?_
                    exact tb_L_holds_111 X hl0 hkd ih _ _ _ _ _ hw38
                  · have hw39 := hw37.2 c70
                    refine j_iconst X (pc' := 108) (v := 1) (by decide) dL_holds_107 rfl ?_
                    refine j_goto X (tgt := 112) dL_holds_108 (by decide) ?_
                    refine j_loc [0, 1, 3] rfl ?_
                    exact tb_L_holds_112 X hl0 hkd ih _ _ _ _ _ _ hw39
def wb_L_holds_25 (kd : Nat → Nat) (post : Int32 → Mm → Prop)  (v0 : Nat) (v1 : Int32) (s0 : Int32) (μ : Mm) (cz : Nat) : Prop := ∃ n9, wb_L_holds_28 kd post n9 v0 v1 s0 (0 : Int32) μ cz
set_option maxHeartbeats 4000000 in
set_option maxRecDepth 100000 in
theorem tb_L_holds_25 {p : Program} {l : Launch} {e : Env} {s : State} {m : MethodId} {args : Array Value} {below : List Frame} {meth : Method} {c : Code} {G : gG} {A : Nat → Prop} {kd : Nat → Nat} {post : Int32 → Mm → Prop} (X : Cx p l s m args meth c cL_holds 12 (some .boolean) RL G A) (hl0 : l.stackTraces = false) (hkd : G.2.2 = kd) : ∀ (v0 : Nat) (v1 : Int32) (s0 : Int32) (μ : Mm) (cz : Nat), wb_L_holds_25 kd post v0 v1 s0 μ cz → J p l e (rmL (79) 1000 8000) s m args below meth c 12 G A (MQ below (QG G A (pI post)) args s 1000 8000 A) cz (8 * cz) 25 [(0, .ref v0), (1, .int v1)] [.int s0] μ := by
  intro v0 v1 s0 μ cz hw
  unfold wb_L_holds_25 at hw
  refine j_istore_n X (pc' := 26) (kk := 2) (i := 2) (loc' := [(2, .int s0), (0, .ref v0), (1, .int v1)]) dL_holds_25 rfl rfl (by decide) rfl ?_
  refine j_iconst X (pc' := 27) (v := 0) (by decide) dL_holds_26 rfl ?_
  refine j_istore_n X (pc' := 28) (kk := 3) (i := 3) (loc' := [(3, .int ((0 : Int32))), (2, .int s0), (0, .ref v0), (1, .int v1)]) dL_holds_27 rfl rfl (by decide) rfl ?_
  obtain ⟨n0, hw1⟩ := hw
  refine j_loc [2, 3, 1, 0] rfl ?_
  exact tb_L_holds_28 X hl0 hkd n0 _ _ _ _ _ _ hw1
def wb_L_holds_24 (kd : Nat → Nat) (post : Int32 → Mm → Prop)  (v0 : Nat) (v1 : Int32) (μ : Mm) (cz : Nat) : Prop := wb_L_holds_25 kd post v0 v1 (0 : Int32) μ cz
set_option maxHeartbeats 4000000 in
set_option maxRecDepth 100000 in
theorem tb_L_holds_24 {p : Program} {l : Launch} {e : Env} {s : State} {m : MethodId} {args : Array Value} {below : List Frame} {meth : Method} {c : Code} {G : gG} {A : Nat → Prop} {kd : Nat → Nat} {post : Int32 → Mm → Prop} (X : Cx p l s m args meth c cL_holds 12 (some .boolean) RL G A) (hl0 : l.stackTraces = false) (hkd : G.2.2 = kd) : ∀ (v0 : Nat) (v1 : Int32) (μ : Mm) (cz : Nat), wb_L_holds_24 kd post v0 v1 μ cz → J p l e (rmL (79) 1000 8000) s m args below meth c 12 G A (MQ below (QG G A (pI post)) args s 1000 8000 A) cz (8 * cz) 24 [(0, .ref v0), (1, .int v1)] [] μ := by
  intro v0 v1 μ cz hw
  unfold wb_L_holds_24 at hw
  refine j_iconst X (pc' := 25) (v := 0) (by decide) dL_holds_24 rfl ?_
  exact tb_L_holds_25 X hl0 hkd _ _ _ _ _ hw
def wp_L_holds (kd : Nat → Nat) (x1 : Nat) (x2 : Int32) (μ : Mm) (post : Int32 → Mm → Prop) : Prop := 0 ≤ 1000 ∧ (∃ f4, μ x1 = some (.inl (5, f4))) ∧ wp_X6_bits x1 μ (fun r2 μ5 => ((240 : Int32) < r2 → (wb_L_holds_24 kd post x1 x2 μ5 0)) ∧ (¬ (240 : Int32) < r2 → (0 ≤ 1000 ∧ (∃ f10, μ5 x1 = some (.inl (5, f10))) ∧ wp_X6_length x1 μ5 (fun r8 μ11 => ((300 : Int32) < r8 → (wb_L_holds_24 kd post x1 x2 μ11 0)) ∧ (¬ (300 : Int32) < r8 → (wb_L_holds_25 kd post x1 x2 (1 : Int32) μ11 0))))))
set_option maxHeartbeats 4000000 in
set_option maxRecDepth 100000 in
theorem c_L_holds (l : Launch) (G : gG) (A : Nat → Prop) (hl0 : l.stackTraces = false) (kd : Nat → Nat) (hkd : G.2.2 = kd) (x1 : Nat) (x2 : Int32) (μ : Mm) (post : Int32 → Mm → Prop) (h : wp_L_holds kd x1 x2 μ post) : Met l yL_holds (.code yL_holds cL_holds 12 (some .boolean) :: wsA) (rmL (79) 1000 8000) (PcG G A μ [.ref x1, .int x2]) (QG G A (pI post)) 1000 8000 A := by
  refine met_J (loc := [(0, .ref x1), (1, .int x2)]) (by decide +kernel) (Nat.le_of_ble_eq_true rfl) rfl ?_
  intro p e s m args below meth c X hin
  have X : Cx p l s m args meth c cL_holds 12 (some .boolean) RL G A := X
  have hw := h
  unfold wp_L_holds at hw
  refine j_aload_n X (pc' := 1) (kk := 0) (i := 0) 0 rfl rfl dL_holds_0 rfl ?_
  obtain ⟨hz1, hw1⟩ := hw
  obtain ⟨⟨f4, hm3⟩, hw2⟩ := hw1
  refine j_callVi X (pc' := 4) (cells' := 0 + 0) (slots' := 8 * (0) + 0) (As := []) (rest := []) (c_X6_bits l G A x1 μ _ hw2) (gk_X6_bits wt_1_136) hd_X6_bits (rmL_fit (k1 := 1) (k := 79) (by omega) (by decide)) hm3 rfl rfl rfl (Nat.le_of_ble_eq_true rfl) dL_holds_1 rfl ⟨by show _ ≤ 1000; omega, by show _ ≤ 8000; omega⟩ rfl rfl (fun r2 μ5 hw3 => ?_)
  refine j_widen (k1 := 0) (n1 := 8 * (0)) (by omega) (by omega) ?_
  refine j_sipush X (pc' := 7) (v := 240) (by decide) dL_holds_4 rfl ?_
  refine j_icmp_gt X (pc' := 10) (tgt := 24) dL_holds_7 rfl (by decide) (fun c6 => ?_) (fun c6 => ?_)
  · have hw4 := hw3.1 c6
    exact tb_L_holds_24 X hl0 hkd _ _ _ _ hw4
  · have hw5 := hw3.2 c6
    refine j_aload_n X (pc' := 11) (kk := 0) (i := 0) 0 rfl rfl dL_holds_10 rfl ?_
    obtain ⟨hz7, hw6⟩ := hw5
    obtain ⟨⟨f10, hm9⟩, hw7⟩ := hw6
    refine j_callVi X (pc' := 14) (cells' := 0 + 0) (slots' := 8 * (0) + 0) (As := []) (rest := []) (c_X6_length l G A x1 μ5 _ hw7) (gk_X6_length wt_2_221) hd_X6_length (rmL_fit (k1 := 1) (k := 79) (by omega) (by decide)) hm9 rfl rfl rfl (Nat.le_of_ble_eq_true rfl) dL_holds_11 rfl ⟨by show _ ≤ 1000; omega, by show _ ≤ 8000; omega⟩ rfl rfl (fun r8 μ11 hw8 => ?_)
    refine j_widen (k1 := 0) (n1 := 8 * (0)) (by omega) (by omega) ?_
    refine j_sipush X (pc' := 17) (v := 300) (by decide) dL_holds_14 rfl ?_
    refine j_icmp_gt X (pc' := 20) (tgt := 24) dL_holds_17 rfl (by decide) (fun c12 => ?_) (fun c12 => ?_)
    · have hw9 := hw8.1 c12
      exact tb_L_holds_24 X hl0 hkd _ _ _ _ hw9
    · have hw10 := hw8.2 c12
      refine j_iconst X (pc' := 21) (v := 1) (by decide) dL_holds_20 rfl ?_
      refine j_goto X (tgt := 25) dL_holds_21 (by decide) ?_
      exact tb_L_holds_25 X hl0 hkd _ _ _ _ _ hw10
theorem hd_L_act : yL_act.cls ≠ "java/lang/invoke/MethodHandle" ∧ yL_act.cls ≠ "java/lang/invoke/VarHandle" ∧ (parseMethodDescriptor yL_act.desc).map (fun d => d.parameters.length) = some 2 := ⟨by decide +kernel, by decide +kernel, by decide +kernel⟩
theorem gk_L_act {own : String} {idx : Nat} (h : Cond.methodLink own idx yL_act ∈ wsA) : GoodIn wsA (va_wsS own idx yL_act (.code yL_act cL_act 11 (some .int) :: wsA)) := gd_S h wt_3_146 wt_1_0 wt_3_147
/-! BitNotationLaw.act(LBitNotation;I)I -/
theorem dL_act_0 : decode cL_act 0 = .ok (.iload_n 1, 1) := by decide +kernel
theorem dL_act_1 : decode cL_act 1 = .ok (.bipush 32, 2) := by decide +kernel
theorem dL_act_3 : decode cL_act 3 = .ok (.idiv, 1) := by decide +kernel
theorem dL_act_4 : decode cL_act 4 = .ok (.istore_n 2, 1) := by decide +kernel
theorem dL_act_5 : decode cL_act 5 = .ok (.aload_n 0, 1) := by decide +kernel
theorem dL_act_6 : decode cL_act 6 = .ok (.invokevirtual 76, 3) := by decide +kernel
theorem dL_act_9 : decode cL_act 9 = .ok (.istore_n 3, 1) := by decide +kernel
theorem dL_act_10 : decode cL_act 10 = .ok (.iload_n 3, 1) := by decide +kernel
theorem dL_act_11 : decode cL_act 11 = .ok (.ifCond .ne 7, 3) := by decide +kernel
theorem dL_act_14 : decode cL_act 14 = .ok (.iconst 0, 1) := by decide +kernel
theorem dL_act_15 : decode cL_act 15 = .ok (.goto 6, 3) := by decide +kernel
theorem dL_act_18 : decode cL_act 18 = .ok (.iload_n 2, 1) := by decide +kernel
theorem dL_act_19 : decode cL_act 19 = .ok (.iload_n 3, 1) := by decide +kernel
theorem dL_act_20 : decode cL_act 20 = .ok (.irem, 1) := by decide +kernel
theorem dL_act_21 : decode cL_act 21 = .ok (.istore 4, 2) := by decide +kernel
theorem dL_act_23 : decode cL_act 23 = .ok (.iload_n 1, 1) := by decide +kernel
theorem dL_act_24 : decode cL_act 24 = .ok (.bipush 32, 2) := by decide +kernel
theorem dL_act_26 : decode cL_act 26 = .ok (.irem, 1) := by decide +kernel
theorem dL_act_27 : decode cL_act 27 = .ok (.tableswitch 343 0 23 #[109, 109, 109, 145, 145, 171, 171, 171, 171, 171, 192, 192, 197, 202, 202, 236, 236, 236, 236, 263, 268, 275, 297, 330], 109) := by decide +kernel
theorem dL_act_136 : decode cL_act 136 = .ok (.aload_n 0, 1) := by decide +kernel
theorem dL_act_137 : decode cL_act 137 = .ok (.iload_n 2, 1) := by decide +kernel
theorem dL_act_138 : decode cL_act 138 = .ok (.bipush 9, 2) := by decide +kernel
theorem dL_act_140 : decode cL_act 140 = .ok (.irem, 1) := by decide +kernel
theorem dL_act_141 : decode cL_act 141 = .ok (.iconst 4, 1) := by decide +kernel
theorem dL_act_142 : decode cL_act 142 = .ok (.isub, 1) := by decide +kernel
theorem dL_act_143 : decode cL_act 143 = .ok (.iload_n 2, 1) := by decide +kernel
theorem dL_act_144 : decode cL_act 144 = .ok (.bipush 9, 2) := by decide +kernel
theorem dL_act_146 : decode cL_act 146 = .ok (.irem, 1) := by decide +kernel
theorem dL_act_147 : decode cL_act 147 = .ok (.iconst 4, 1) := by decide +kernel
theorem dL_act_148 : decode cL_act 148 = .ok (.isub, 1) := by decide +kernel
theorem dL_act_149 : decode cL_act 149 = .ok (.iload_n 2, 1) := by decide +kernel
theorem dL_act_150 : decode cL_act 150 = .ok (.bipush 9, 2) := by decide +kernel
theorem dL_act_152 : decode cL_act 152 = .ok (.idiv, 1) := by decide +kernel
theorem dL_act_153 : decode cL_act 153 = .ok (.iload_n 2, 1) := by decide +kernel
theorem dL_act_154 : decode cL_act 154 = .ok (.iconst 2, 1) := by decide +kernel
theorem dL_act_155 : decode cL_act 155 = .ok (.irem, 1) := by decide +kernel
theorem dL_act_156 : decode cL_act 156 = .ok (.ifCond .ne 8, 3) := by decide +kernel
theorem dL_act_159 : decode cL_act 159 = .ok (.bipush 6, 2) := by decide +kernel
theorem dL_act_161 : decode cL_act 161 = .ok (.goto 5, 3) := by decide +kernel
theorem dL_act_164 : decode cL_act 164 = .ok (.bipush 40, 2) := by decide +kernel
theorem dL_act_166 : decode cL_act 166 = .ok (.irem, 1) := by decide +kernel
theorem dL_act_167 : decode cL_act 167 = .ok (.iadd, 1) := by decide +kernel
theorem dL_act_168 : decode cL_act 168 = .ok (.invokestatic 82, 3) := by decide +kernel
theorem dL_act_171 : decode cL_act 171 = .ok (.ireturn, 1) := by decide +kernel
theorem dL_act_172 : decode cL_act 172 = .ok (.aload_n 0, 1) := by decide +kernel
theorem dL_act_173 : decode cL_act 173 = .ok (.iload 4, 2) := by decide +kernel
theorem dL_act_175 : decode cL_act 175 = .ok (.iload_n 2, 1) := by decide +kernel
theorem dL_act_176 : decode cL_act 176 = .ok (.bipush 16, 2) := by decide +kernel
theorem dL_act_178 : decode cL_act 178 = .ok (.idiv, 1) := by decide +kernel
theorem dL_act_179 : decode cL_act 179 = .ok (.iconst 3, 1) := by decide +kernel
theorem dL_act_180 : decode cL_act 180 = .ok (.irem, 1) := by decide +kernel
theorem dL_act_181 : decode cL_act 181 = .ok (.iload_n 2, 1) := by decide +kernel
theorem dL_act_182 : decode cL_act 182 = .ok (.bipush 16, 2) := by decide +kernel
theorem dL_act_184 : decode cL_act 184 = .ok (.idiv, 1) := by decide +kernel
theorem dL_act_185 : decode cL_act 185 = .ok (.iconst 3, 1) := by decide +kernel
theorem dL_act_186 : decode cL_act 186 = .ok (.irem, 1) := by decide +kernel
theorem dL_act_187 : decode cL_act 187 = .ok (.iload_n 2, 1) := by decide +kernel
theorem dL_act_188 : decode cL_act 188 = .ok (.bipush 48, 2) := by decide +kernel
theorem dL_act_190 : decode cL_act 190 = .ok (.idiv, 1) := by decide +kernel
theorem dL_act_191 : decode cL_act 191 = .ok (.iconst 4, 1) := by decide +kernel
theorem dL_act_192 : decode cL_act 192 = .ok (.irem, 1) := by decide +kernel
theorem dL_act_193 : decode cL_act 193 = .ok (.iadd, 1) := by decide +kernel
theorem dL_act_194 : decode cL_act 194 = .ok (.invokestatic 88, 3) := by decide +kernel
theorem dL_act_197 : decode cL_act 197 = .ok (.ireturn, 1) := by decide +kernel
theorem dL_act_198 : decode cL_act 198 = .ok (.aload_n 0, 1) := by decide +kernel
theorem dL_act_199 : decode cL_act 199 = .ok (.iload 4, 2) := by decide +kernel
theorem dL_act_201 : decode cL_act 201 = .ok (.iload_n 2, 1) := by decide +kernel
theorem dL_act_202 : decode cL_act 202 = .ok (.bipush 16, 2) := by decide +kernel
theorem dL_act_204 : decode cL_act 204 = .ok (.idiv, 1) := by decide +kernel
theorem dL_act_205 : decode cL_act 205 = .ok (.iconst 2, 1) := by decide +kernel
theorem dL_act_206 : decode cL_act 206 = .ok (.irem, 1) := by decide +kernel
theorem dL_act_207 : decode cL_act 207 = .ok (.ifCond .ne 7, 3) := by decide +kernel
theorem dL_act_210 : decode cL_act 210 = .ok (.iconst 1, 1) := by decide +kernel
theorem dL_act_211 : decode cL_act 211 = .ok (.goto 4, 3) := by decide +kernel
theorem dL_act_214 : decode cL_act 214 = .ok (.iconst 0, 1) := by decide +kernel
theorem dL_act_215 : decode cL_act 215 = .ok (.invokestatic 92, 3) := by decide +kernel
theorem dL_act_218 : decode cL_act 218 = .ok (.ireturn, 1) := by decide +kernel
theorem dL_act_219 : decode cL_act 219 = .ok (.aload_n 0, 1) := by decide +kernel
theorem dL_act_220 : decode cL_act 220 = .ok (.invokestatic 133, 3) := by decide +kernel
theorem dL_act_223 : decode cL_act 223 = .ok (.ireturn, 1) := by decide +kernel
theorem dL_act_224 : decode cL_act 224 = .ok (.aload_n 0, 1) := by decide +kernel
theorem dL_act_225 : decode cL_act 225 = .ok (.invokestatic 137, 3) := by decide +kernel
theorem dL_act_228 : decode cL_act 228 = .ok (.ireturn, 1) := by decide +kernel
theorem dL_act_229 : decode cL_act 229 = .ok (.aload_n 0, 1) := by decide +kernel
theorem dL_act_230 : decode cL_act 230 = .ok (.iload_n 3, 1) := by decide +kernel
theorem dL_act_231 : decode cL_act 231 = .ok (.ifCond .ne 7, 3) := by decide +kernel
theorem dL_act_234 : decode cL_act 234 = .ok (.iconst 0, 1) := by decide +kernel
theorem dL_act_235 : decode cL_act 235 = .ok (.goto 10, 3) := by decide +kernel
theorem dL_act_238 : decode cL_act 238 = .ok (.iload_n 3, 1) := by decide +kernel
theorem dL_act_239 : decode cL_act 239 = .ok (.iconst 1, 1) := by decide +kernel
theorem dL_act_240 : decode cL_act 240 = .ok (.isub, 1) := by decide +kernel
theorem dL_act_241 : decode cL_act 241 = .ok (.iload_n 2, 1) := by decide +kernel
theorem dL_act_242 : decode cL_act 242 = .ok (.iload_n 3, 1) := by decide +kernel
theorem dL_act_243 : decode cL_act 243 = .ok (.irem, 1) := by decide +kernel
theorem dL_act_244 : decode cL_act 244 = .ok (.isub, 1) := by decide +kernel
theorem dL_act_245 : decode cL_act 245 = .ok (.iload_n 3, 1) := by decide +kernel
theorem dL_act_246 : decode cL_act 246 = .ok (.ifCond .ne 7, 3) := by decide +kernel
theorem dL_act_249 : decode cL_act 249 = .ok (.iconst 0, 1) := by decide +kernel
theorem dL_act_250 : decode cL_act 250 = .ok (.goto 9, 3) := by decide +kernel
theorem dL_act_253 : decode cL_act 253 = .ok (.iload_n 2, 1) := by decide +kernel
theorem dL_act_254 : decode cL_act 254 = .ok (.bipush 16, 2) := by decide +kernel
theorem dL_act_256 : decode cL_act 256 = .ok (.idiv, 1) := by decide +kernel
theorem dL_act_257 : decode cL_act 257 = .ok (.iload_n 3, 1) := by decide +kernel
theorem dL_act_258 : decode cL_act 258 = .ok (.irem, 1) := by decide +kernel
theorem dL_act_259 : decode cL_act 259 = .ok (.invokestatic 96, 3) := by decide +kernel
theorem dL_act_262 : decode cL_act 262 = .ok (.ireturn, 1) := by decide +kernel
theorem dL_act_263 : decode cL_act 263 = .ok (.aload_n 0, 1) := by decide +kernel
theorem dL_act_264 : decode cL_act 264 = .ok (.iload_n 2, 1) := by decide +kernel
theorem dL_act_265 : decode cL_act 265 = .ok (.iconst 3, 1) := by decide +kernel
theorem dL_act_266 : decode cL_act 266 = .ok (.irem, 1) := by decide +kernel
theorem dL_act_267 : decode cL_act 267 = .ok (.ifCond .ne 14, 3) := by decide +kernel
theorem dL_act_270 : decode cL_act 270 = .ok (.iload_n 2, 1) := by decide +kernel
theorem dL_act_271 : decode cL_act 271 = .ok (.iconst 3, 1) := by decide +kernel
theorem dL_act_272 : decode cL_act 272 = .ok (.idiv, 1) := by decide +kernel
theorem dL_act_273 : decode cL_act 273 = .ok (.bipush 9, 2) := by decide +kernel
theorem dL_act_275 : decode cL_act 275 = .ok (.irem, 1) := by decide +kernel
theorem dL_act_276 : decode cL_act 276 = .ok (.iconst 4, 1) := by decide +kernel
theorem dL_act_277 : decode cL_act 277 = .ok (.isub, 1) := by decide +kernel
theorem dL_act_278 : decode cL_act 278 = .ok (.goto 8, 3) := by decide +kernel
theorem dL_act_281 : decode cL_act 281 = .ok (.iload_n 2, 1) := by decide +kernel
theorem dL_act_282 : decode cL_act 282 = .ok (.iconst 3, 1) := by decide +kernel
theorem dL_act_283 : decode cL_act 283 = .ok (.idiv, 1) := by decide +kernel
theorem dL_act_284 : decode cL_act 284 = .ok (.iconst 2, 1) := by decide +kernel
theorem dL_act_285 : decode cL_act 285 = .ok (.irem, 1) := by decide +kernel
theorem dL_act_286 : decode cL_act 286 = .ok (.invokestatic 105, 3) := by decide +kernel
theorem dL_act_289 : decode cL_act 289 = .ok (.ireturn, 1) := by decide +kernel
theorem dL_act_290 : decode cL_act 290 = .ok (.aload_n 0, 1) := by decide +kernel
theorem dL_act_291 : decode cL_act 291 = .ok (.invokevirtual 140, 3) := by decide +kernel
theorem dL_act_294 : decode cL_act 294 = .ok (.ireturn, 1) := by decide +kernel
theorem dL_act_295 : decode cL_act 295 = .ok (.aload_n 0, 1) := by decide +kernel
theorem dL_act_296 : decode cL_act 296 = .ok (.iload 4, 2) := by decide +kernel
theorem dL_act_298 : decode cL_act 298 = .ok (.invokestatic 116, 3) := by decide +kernel
theorem dL_act_301 : decode cL_act 301 = .ok (.ireturn, 1) := by decide +kernel
theorem dL_act_302 : decode cL_act 302 = .ok (.aload_n 0, 1) := by decide +kernel
theorem dL_act_303 : decode cL_act 303 = .ok (.invokevirtual 79, 3) := by decide +kernel
theorem dL_act_306 : decode cL_act 306 = .ok (.ifCond .ne 7, 3) := by decide +kernel
theorem dL_act_309 : decode cL_act 309 = .ok (.iconst 0, 1) := by decide +kernel
theorem dL_act_310 : decode cL_act 310 = .ok (.goto 13, 3) := by decide +kernel
theorem dL_act_313 : decode cL_act 313 = .ok (.aload_n 0, 1) := by decide +kernel
theorem dL_act_314 : decode cL_act 314 = .ok (.iload_n 2, 1) := by decide +kernel
theorem dL_act_315 : decode cL_act 315 = .ok (.aload_n 0, 1) := by decide +kernel
theorem dL_act_316 : decode cL_act 316 = .ok (.invokevirtual 79, 3) := by decide +kernel
theorem dL_act_319 : decode cL_act 319 = .ok (.irem, 1) := by decide +kernel
theorem dL_act_320 : decode cL_act 320 = .ok (.invokestatic 121, 3) := by decide +kernel
theorem dL_act_323 : decode cL_act 323 = .ok (.ireturn, 1) := by decide +kernel
theorem dL_act_324 : decode cL_act 324 = .ok (.aload_n 0, 1) := by decide +kernel
theorem dL_act_325 : decode cL_act 325 = .ok (.iload_n 2, 1) := by decide +kernel
theorem dL_act_326 : decode cL_act 326 = .ok (.iconst 3, 1) := by decide +kernel
theorem dL_act_327 : decode cL_act 327 = .ok (.irem, 1) := by decide +kernel
theorem dL_act_328 : decode cL_act 328 = .ok (.ifCond .ne 21, 3) := by decide +kernel
theorem dL_act_331 : decode cL_act 331 = .ok (.aload_n 0, 1) := by decide +kernel
theorem dL_act_332 : decode cL_act 332 = .ok (.invokevirtual 79, 3) := by decide +kernel
theorem dL_act_335 : decode cL_act 335 = .ok (.ifCond .le 14, 3) := by decide +kernel
theorem dL_act_338 : decode cL_act 338 = .ok (.iload_n 2, 1) := by decide +kernel
theorem dL_act_339 : decode cL_act 339 = .ok (.iconst 3, 1) := by decide +kernel
theorem dL_act_340 : decode cL_act 340 = .ok (.idiv, 1) := by decide +kernel
theorem dL_act_341 : decode cL_act 341 = .ok (.aload_n 0, 1) := by decide +kernel
theorem dL_act_342 : decode cL_act 342 = .ok (.invokevirtual 79, 3) := by decide +kernel
theorem dL_act_345 : decode cL_act 345 = .ok (.irem, 1) := by decide +kernel
theorem dL_act_346 : decode cL_act 346 = .ok (.goto 7, 3) := by decide +kernel
theorem dL_act_349 : decode cL_act 349 = .ok (.aload_n 0, 1) := by decide +kernel
theorem dL_act_350 : decode cL_act 350 = .ok (.invokevirtual 79, 3) := by decide +kernel
theorem dL_act_353 : decode cL_act 353 = .ok (.invokestatic 124, 3) := by decide +kernel
theorem dL_act_356 : decode cL_act 356 = .ok (.ireturn, 1) := by decide +kernel
theorem dL_act_357 : decode cL_act 357 = .ok (.aload_n 0, 1) := by decide +kernel
theorem dL_act_358 : decode cL_act 358 = .ok (.iload 4, 2) := by decide +kernel
theorem dL_act_360 : decode cL_act 360 = .ok (.iload_n 2, 1) := by decide +kernel
theorem dL_act_361 : decode cL_act 361 = .ok (.bipush 16, 2) := by decide +kernel
theorem dL_act_363 : decode cL_act 363 = .ok (.idiv, 1) := by decide +kernel
theorem dL_act_364 : decode cL_act 364 = .ok (.iconst 4, 1) := by decide +kernel
theorem dL_act_365 : decode cL_act 365 = .ok (.irem, 1) := by decide +kernel
theorem dL_act_366 : decode cL_act 366 = .ok (.invokestatic 127, 3) := by decide +kernel
theorem dL_act_369 : decode cL_act 369 = .ok (.ireturn, 1) := by decide +kernel
theorem dL_act_370 : decode cL_act 370 = .ok (.iload_n 3, 1) := by decide +kernel
theorem dL_act_371 : decode cL_act 371 = .ok (.ifCond .ne 7, 3) := by decide +kernel
theorem dL_act_374 : decode cL_act 374 = .ok (.iconst 0, 1) := by decide +kernel
theorem dL_act_375 : decode cL_act 375 = .ok (.goto 10, 3) := by decide +kernel
theorem dL_act_378 : decode cL_act 378 = .ok (.iload_n 3, 1) := by decide +kernel
theorem dL_act_379 : decode cL_act 379 = .ok (.iconst 1, 1) := by decide +kernel
theorem dL_act_380 : decode cL_act 380 = .ok (.isub, 1) := by decide +kernel
theorem dL_act_381 : decode cL_act 381 = .ok (.iload_n 2, 1) := by decide +kernel
theorem dL_act_382 : decode cL_act 382 = .ok (.iload_n 3, 1) := by decide +kernel
theorem dL_act_383 : decode cL_act 383 = .ok (.irem, 1) := by decide +kernel
theorem dL_act_384 : decode cL_act 384 = .ok (.isub, 1) := by decide +kernel
theorem dL_act_385 : decode cL_act 385 = .ok (.istore 5, 2) := by decide +kernel
theorem dL_act_387 : decode cL_act 387 = .ok (.aload_n 0, 1) := by decide +kernel
theorem dL_act_388 : decode cL_act 388 = .ok (.invokevirtual 140, 3) := by decide +kernel
theorem dL_act_391 : decode cL_act 391 = .ok (.istore 6, 2) := by decide +kernel
theorem dL_act_393 : decode cL_act 393 = .ok (.iload_n 3, 1) := by decide +kernel
theorem dL_act_394 : decode cL_act 394 = .ok (.ifCond .ne 7, 3) := by decide +kernel
theorem dL_act_397 : decode cL_act 397 = .ok (.iconst (-1), 1) := by decide +kernel
theorem dL_act_398 : decode cL_act 398 = .ok (.goto 9, 3) := by decide +kernel
theorem dL_act_401 : decode cL_act 401 = .ok (.aload_n 0, 1) := by decide +kernel
theorem dL_act_402 : decode cL_act 402 = .ok (.iload 5, 2) := by decide +kernel
theorem dL_act_404 : decode cL_act 404 = .ok (.invokestatic 113, 3) := by decide +kernel
theorem dL_act_407 : decode cL_act 407 = .ok (.istore 7, 2) := by decide +kernel
theorem dL_act_409 : decode cL_act 409 = .ok (.iconst 0, 1) := by decide +kernel
theorem dL_act_410 : decode cL_act 410 = .ok (.istore 8, 2) := by decide +kernel
theorem dL_act_412 : decode cL_act 412 = .ok (.iload 8, 2) := by decide +kernel
theorem dL_act_414 : decode cL_act 414 = .ok (.bipush 24, 2) := by decide +kernel
theorem dL_act_416 : decode cL_act 416 = .ok (.if_icmp .ge 75, 3) := by decide +kernel
theorem dL_act_419 : decode cL_act 419 = .ok (.iload 7, 2) := by decide +kernel
theorem dL_act_421 : decode cL_act 421 = .ok (.ifCond .lt 70, 3) := by decide +kernel
theorem dL_act_424 : decode cL_act 424 = .ok (.iload 7, 2) := by decide +kernel
theorem dL_act_426 : decode cL_act 426 = .ok (.aload_n 0, 1) := by decide +kernel
theorem dL_act_427 : decode cL_act 427 = .ok (.invokevirtual 110, 3) := by decide +kernel
theorem dL_act_430 : decode cL_act 430 = .ok (.if_icmp .ne 61, 3) := by decide +kernel
theorem dL_act_433 : decode cL_act 433 = .ok (.iload_n 2, 1) := by decide +kernel
theorem dL_act_434 : decode cL_act 434 = .ok (.iload 8, 2) := by decide +kernel
theorem dL_act_436 : decode cL_act 436 = .ok (.bipush 24, 2) := by decide +kernel
theorem dL_act_438 : decode cL_act 438 = .ok (.irem, 1) := by decide +kernel
theorem dL_act_439 : decode cL_act 439 = .ok (.ishr, 1) := by decide +kernel
theorem dL_act_440 : decode cL_act 440 = .ok (.iconst 5, 1) := by decide +kernel
theorem dL_act_441 : decode cL_act 441 = .ok (.irem, 1) := by decide +kernel
theorem dL_act_442 : decode cL_act 442 = .ok (.iconst 1, 1) := by decide +kernel
theorem dL_act_443 : decode cL_act 443 = .ok (.isub, 1) := by decide +kernel
theorem dL_act_444 : decode cL_act 444 = .ok (.istore 9, 2) := by decide +kernel
theorem dL_act_446 : decode cL_act 446 = .ok (.aload_n 0, 1) := by decide +kernel
theorem dL_act_447 : decode cL_act 447 = .ok (.iload 9, 2) := by decide +kernel
theorem dL_act_449 : decode cL_act 449 = .ok (.invokestatic 105, 3) := by decide +kernel
theorem dL_act_452 : decode cL_act 452 = .ok (.pop, 1) := by decide +kernel
theorem dL_act_453 : decode cL_act 453 = .ok (.aload_n 0, 1) := by decide +kernel
theorem dL_act_454 : decode cL_act 454 = .ok (.iload 5, 2) := by decide +kernel
theorem dL_act_456 : decode cL_act 456 = .ok (.invokestatic 113, 3) := by decide +kernel
theorem dL_act_459 : decode cL_act 459 = .ok (.istore 10, 2) := by decide +kernel
theorem dL_act_461 : decode cL_act 461 = .ok (.iload 10, 2) := by decide +kernel
theorem dL_act_463 : decode cL_act 463 = .ok (.iload 7, 2) := by decide +kernel
theorem dL_act_465 : decode cL_act 465 = .ok (.if_icmp .ne 16, 3) := by decide +kernel
theorem dL_act_468 : decode cL_act 468 = .ok (.aload_n 0, 1) := by decide +kernel
theorem dL_act_469 : decode cL_act 469 = .ok (.iload 5, 2) := by decide +kernel
theorem dL_act_471 : decode cL_act 471 = .ok (.iload 7, 2) := by decide +kernel
theorem dL_act_473 : decode cL_act 473 = .ok (.invokestatic 143, 3) := by decide +kernel
theorem dL_act_476 : decode cL_act 476 = .ok (.istore 7, 2) := by decide +kernel
theorem dL_act_478 : decode cL_act 478 = .ok (.goto 7, 3) := by decide +kernel
theorem dL_act_481 : decode cL_act 481 = .ok (.iload 10, 2) := by decide +kernel
theorem dL_act_483 : decode cL_act 483 = .ok (.istore 7, 2) := by decide +kernel
theorem dL_act_485 : decode cL_act 485 = .ok (.iinc 8 1, 3) := by decide +kernel
theorem dL_act_488 : decode cL_act 488 = .ok (.goto (-76), 3) := by decide +kernel
theorem dL_act_491 : decode cL_act 491 = .ok (.iload_n 3, 1) := by decide +kernel
theorem dL_act_492 : decode cL_act 492 = .ok (.ifCond .ne 7, 3) := by decide +kernel
theorem dL_act_495 : decode cL_act 495 = .ok (.iconst 0, 1) := by decide +kernel
theorem dL_act_496 : decode cL_act 496 = .ok (.goto 9, 3) := by decide +kernel
theorem dL_act_499 : decode cL_act 499 = .ok (.aload_n 0, 1) := by decide +kernel
theorem dL_act_500 : decode cL_act 500 = .ok (.iload 5, 2) := by decide +kernel
theorem dL_act_502 : decode cL_act 502 = .ok (.invokestatic 116, 3) := by decide +kernel
theorem dL_act_505 : decode cL_act 505 = .ok (.istore 8, 2) := by decide +kernel
theorem dL_act_507 : decode cL_act 507 = .ok (.iload 8, 2) := by decide +kernel
theorem dL_act_509 : decode cL_act 509 = .ok (.ifCond .ge 8, 3) := by decide +kernel
theorem dL_act_512 : decode cL_act 512 = .ok (.iload 8, 2) := by decide +kernel
theorem dL_act_514 : decode cL_act 514 = .ok (.goto 12, 3) := by decide +kernel
theorem dL_act_517 : decode cL_act 517 = .ok (.iload 6, 2) := by decide +kernel
theorem dL_act_519 : decode cL_act 519 = .ok (.sipush 1000, 3) := by decide +kernel
theorem dL_act_522 : decode cL_act 522 = .ok (.iload 8, 2) := by decide +kernel
theorem dL_act_524 : decode cL_act 524 = .ok (.imul, 1) := by decide +kernel
theorem dL_act_525 : decode cL_act 525 = .ok (.iadd, 1) := by decide +kernel
theorem dL_act_526 : decode cL_act 526 = .ok (.ireturn, 1) := by decide +kernel
def wb_L_act_505 (kd : Nat → Nat) (post : Int32 → Mm → Prop)  (v6 : Int32) (s0 : Int32) (μ : Mm) (cz : Nat) : Prop := (0 ≤ s0 → (cz ≤ 3000 ∧ post (v6 + ((1000 : Int32) * s0)) μ)) ∧ (¬ 0 ≤ s0 → (cz ≤ 3000 ∧ post s0 μ))
set_option maxHeartbeats 4000000 in
set_option maxRecDepth 100000 in
theorem tb_L_act_505 {p : Program} {l : Launch} {e : Env} {s : State} {m : MethodId} {args : Array Value} {below : List Frame} {meth : Method} {c : Code} {G : gG} {A : Nat → Prop} {kd : Nat → Nat} {post : Int32 → Mm → Prop} (X : Cx p l s m args meth c cL_act 11 (some .int) RL G A) (hl0 : l.stackTraces = false) (hkd : G.2.2 = kd) : ∀ (v6 : Int32) (s0 : Int32) (μ : Mm) (cz : Nat), wb_L_act_505 kd post v6 s0 μ cz → J p l e (rmL (80) 3000 24000) s m args below meth c 11 G A (MQ below (QG G A (pI post)) args s 3000 24000 A) cz (8 * cz) 505 [(6, .int v6)] [.int s0] μ := by
  intro v6 s0 μ cz hw
  unfold wb_L_act_505 at hw
  refine j_istore X (pc' := 507) (i := 8) (loc' := [(8, .int s0), (6, .int v6)]) dL_act_505 rfl (by decide) rfl ?_
  refine j_iload X (pc' := 509) (i := 8) 0 rfl dL_act_507 rfl ?_
  refine j_if_ge X (pc' := 512) (tgt := 517) dL_act_509 rfl (by decide) (fun c164 => ?_) (fun c164 => ?_)
  · have hw1 := hw.1 c164
    refine j_iload X (pc' := 519) (i := 6) 1 rfl dL_act_517 rfl ?_
    refine j_sipush X (pc' := 522) (v := 1000) (by decide) dL_act_519 rfl ?_
    refine j_iload X (pc' := 524) (i := 8) 0 rfl dL_act_522 rfl ?_
    refine j_imul X (pc' := 525) dL_act_524 rfl ?_
    refine j_iadd X (pc' := 526) dL_act_525 rfl ?_
    obtain ⟨hz165, hw2⟩ := hw1
    exact j_iret X ⟨_, rfl, hw2⟩ (by omega) (by omega) dL_act_526
  · have hw3 := hw.2 c164
    refine j_iload X (pc' := 514) (i := 8) 0 rfl dL_act_512 rfl ?_
    refine j_goto X (tgt := 526) dL_act_514 (by decide) ?_
    obtain ⟨hz166, hw4⟩ := hw3
    exact j_iret X ⟨_, rfl, hw4⟩ (by omega) (by omega) dL_act_526
def wb_L_act_491 (kd : Nat → Nat) (post : Int32 → Mm → Prop)  (v0 : Nat) (v3 : Int32) (v5 : Int32) (v6 : Int32) (μ : Mm) (cz : Nat) : Prop := (¬ v3 = 0 → (cz + 2 ≤ 3000 ∧ wp_L_writes kd v0 v5 μ (fun r160 μ163 => wb_L_act_505 kd post v6 r160 μ163 (cz + 2)))) ∧ (v3 = 0 → (wb_L_act_505 kd post v6 (0 : Int32) μ cz))
set_option maxHeartbeats 4000000 in
set_option maxRecDepth 100000 in
theorem tb_L_act_491 {p : Program} {l : Launch} {e : Env} {s : State} {m : MethodId} {args : Array Value} {below : List Frame} {meth : Method} {c : Code} {G : gG} {A : Nat → Prop} {kd : Nat → Nat} {post : Int32 → Mm → Prop} (X : Cx p l s m args meth c cL_act 11 (some .int) RL G A) (hl0 : l.stackTraces = false) (hkd : G.2.2 = kd) : ∀ (v0 : Nat) (v3 : Int32) (v5 : Int32) (v6 : Int32) (μ : Mm) (cz : Nat), wb_L_act_491 kd post v0 v3 v5 v6 μ cz → J p l e (rmL (80) 3000 24000) s m args below meth c 11 G A (MQ below (QG G A (pI post)) args s 3000 24000 A) cz (8 * cz) 491 [(0, .ref v0), (3, .int v3), (5, .int v5), (6, .int v6)] [] μ := by
  intro v0 v3 v5 v6 μ cz hw
  unfold wb_L_act_491 at hw
  refine j_iload_n X (pc' := 492) (kk := 3) (i := 3) 1 rfl rfl dL_act_491 rfl ?_
  refine j_if_ne X (pc' := 495) (tgt := 499) dL_act_492 rfl (by decide) (fun c158 => ?_) (fun c158 => ?_)
  · have hw1 := hw.1 c158
    refine j_aload_n X (pc' := 500) (kk := 0) (i := 0) 0 rfl rfl dL_act_499 rfl ?_
    refine j_iload X (pc' := 502) (i := 5) 2 rfl dL_act_500 rfl ?_
    obtain ⟨hz159, hw2⟩ := hw1
    refine j_callSWi X (pc' := 505) (cells' := cz + 2) (slots' := 8 * (cz) + 12) (As := [.ref v0, .int v5]) (rest := []) (c_L_writes l G A hl0 kd hkd v0 v5 μ _ hw2) (gk_L_writes wt_3_40) hd_L_writes (rmL_fit (k1 := 77) (k := 80) (by omega) (by decide)) rfl rfl (Nat.le_of_ble_eq_true rfl) dL_act_502 rfl ⟨by show _ ≤ 3000; omega, by show _ ≤ 24000; omega⟩ rfl rfl (fun r160 μ163 hw3 => ?_)
    refine j_widen (k1 := cz + 2) (n1 := 8 * (cz + 2)) (by omega) (by omega) ?_
    refine j_loc [3] rfl ?_
    exact tb_L_act_505 X hl0 hkd _ _ _ _ hw3
  · have hw4 := hw.2 c158
    refine j_iconst X (pc' := 496) (v := 0) (by decide) dL_act_495 rfl ?_
    refine j_goto X (tgt := 505) dL_act_496 (by decide) ?_
    refine j_loc [3] rfl ?_
    exact tb_L_act_505 X hl0 hkd _ _ _ _ hw4
def wb_L_act_412 (kd : Nat → Nat) (post : Int32 → Mm → Prop)  : Nat → Nat → Int32 → Int32 → Int32 → Int32 → Int32 → Int32 → Mm → Nat → Prop
  | 0 => fun _ _ _ _ _ _ _ _ _ => False
  | n + 1 => fun v0 v2 v3 v5 v6 v7 v8 μ cz => ((24 : Int32) ≤ v8 → (wb_L_act_491 kd post v0 v3 v5 v6 μ cz)) ∧ (¬ (24 : Int32) ≤ v8 → ((v7 < 0 → (wb_L_act_491 kd post v0 v3 v5 v6 μ cz)) ∧ (¬ v7 < 0 → (cz ≤ 3000 ∧ (∃ f139, μ v0 = some (.inl (5, f139))) ∧ wp_X6_length v0 μ (fun r137 μ140 => (¬ v7 = r137 → (wb_L_act_491 kd post v0 v3 v5 v6 μ140 cz)) ∧ (v7 = r137 → (cz + 1 ≤ 3000 ∧ wp_L_tells v0 (((v2 >>> ((v8 - v8 / (24 : Int32) * (24 : Int32)) &&& 31)) - (v2 >>> ((v8 - v8 / (24 : Int32) * (24 : Int32)) &&& 31)) / (5 : Int32) * (5 : Int32)) - (1 : Int32)) μ140 (fun r143 μ146 => cz + 2 ≤ 3000 ∧ wp_L_wrong kd v0 v5 μ146 (fun r148 μ151 => (¬ r148 = v7 → (wb_L_act_412 kd post n v0 v2 v3 v5 v6 r148 (v8 + 1) μ151 (cz + 2))) ∧ (r148 = v7 → (cz + 102 ≤ 3000 ∧ wp_L_again v0 kd v5 v7 μ151 (fun r154 μ157 => wb_L_act_412 kd post n v0 v2 v3 v5 v6 r154 (v8 + 1) μ157 (cz + 102)))))))))))))
set_option maxHeartbeats 4000000 in
set_option maxRecDepth 100000 in
theorem tb_L_act_412 {p : Program} {l : Launch} {e : Env} {s : State} {m : MethodId} {args : Array Value} {below : List Frame} {meth : Method} {c : Code} {G : gG} {A : Nat → Prop} {kd : Nat → Nat} {post : Int32 → Mm → Prop} (X : Cx p l s m args meth c cL_act 11 (some .int) RL G A) (hl0 : l.stackTraces = false) (hkd : G.2.2 = kd) : ∀ (n : Nat) (v0 : Nat) (v2 : Int32) (v3 : Int32) (v5 : Int32) (v6 : Int32) (v7 : Int32) (v8 : Int32) (μ : Mm) (cz : Nat), wb_L_act_412 kd post n v0 v2 v3 v5 v6 v7 v8 μ cz → J p l e (rmL (80) 3000 24000) s m args below meth c 11 G A (MQ below (QG G A (pI post)) args s 3000 24000 A) cz (8 * cz) 412 [(0, .ref v0), (2, .int v2), (3, .int v3), (5, .int v5), (6, .int v6), (7, .int v7), (8, .int v8)] [] μ := by
  intro n
  induction n with
  | zero => intro v0 v2 v3 v5 v6 v7 v8 μ cz hw; exact hw.elim
  | succ n ih =>
    intro v0 v2 v3 v5 v6 v7 v8 μ cz hw
    rw [wb_L_act_412] at hw
    refine j_iload X (pc' := 414) (i := 8) 6 rfl dL_act_412 rfl ?_
    refine j_bipush X (pc' := 416) (v := 24) (by decide) dL_act_414 rfl ?_
    refine j_icmp_ge X (pc' := 419) (tgt := 491) dL_act_416 rfl (by decide) (fun c134 => ?_) (fun c134 => ?_)
    · have hw1 := hw.1 c134
      refine j_loc [0, 2, 3, 4] rfl ?_
      exact tb_L_act_491 X hl0 hkd _ _ _ _ _ _ hw1
    · have hw2 := hw.2 c134
      refine j_iload X (pc' := 421) (i := 7) 5 rfl dL_act_419 rfl ?_
      refine j_if_lt X (pc' := 424) (tgt := 491) dL_act_421 rfl (by decide) (fun c135 => ?_) (fun c135 => ?_)
      · have hw3 := hw2.1 c135
        refine j_loc [0, 2, 3, 4] rfl ?_
        exact tb_L_act_491 X hl0 hkd _ _ _ _ _ _ hw3
      · have hw4 := hw2.2 c135
        refine j_iload X (pc' := 426) (i := 7) 5 rfl dL_act_424 rfl ?_
        refine j_aload_n X (pc' := 427) (kk := 0) (i := 0) 0 rfl rfl dL_act_426 rfl ?_
        obtain ⟨hz136, hw5⟩ := hw4
        obtain ⟨⟨f139, hm138⟩, hw6⟩ := hw5
        refine j_callVi X (pc' := 430) (cells' := cz + 0) (slots' := 8 * (cz) + 0) (As := []) (rest := [.int v7]) (c_X6_length l G A v0 μ _ hw6) (gk_X6_length wt_2_221) hd_X6_length (rmL_fit (k1 := 1) (k := 80) (by omega) (by decide)) hm138 rfl rfl rfl (Nat.le_of_ble_eq_true rfl) dL_act_427 rfl ⟨by show _ ≤ 3000; omega, by show _ ≤ 24000; omega⟩ rfl rfl (fun r137 μ140 hw7 => ?_)
        refine j_widen (k1 := cz) (n1 := 8 * (cz)) (by omega) (by omega) ?_
        refine j_icmp_ne X (pc' := 433) (tgt := 491) dL_act_430 rfl (by decide) (fun c141 => ?_) (fun c141 => ?_)
        · have hw8 := hw7.1 c141
          refine j_loc [0, 2, 3, 4] rfl ?_
          exact tb_L_act_491 X hl0 hkd _ _ _ _ _ _ hw8
        · have hw9 := hw7.2 c141
          refine j_iload_n X (pc' := 434) (kk := 2) (i := 2) 1 rfl rfl dL_act_433 rfl ?_
          refine j_iload X (pc' := 436) (i := 8) 6 rfl dL_act_434 rfl ?_
          refine j_bipush X (pc' := 438) (v := 24) (by decide) dL_act_436 rfl ?_
          refine j_irem X (pc' := 439) (by decide) dL_act_438 rfl ?_
          refine j_ishr X (pc' := 440) dL_act_439 rfl ?_
          refine j_iconst X (pc' := 441) (v := 5) (by decide) dL_act_440 rfl ?_
          refine j_irem X (pc' := 442) (by decide) dL_act_441 rfl ?_
          refine j_iconst X (pc' := 443) (v := 1) (by decide) dL_act_442 rfl ?_
          refine j_isub X (pc' := 444) dL_act_443 rfl ?_
          refine j_istore X (pc' := 446) (i := 9) (loc' := [(9, .int (((v2 >>> ((v8 - v8 / (24 : Int32) * (24 : Int32)) &&& 31)) - (v2 >>> ((v8 - v8 / (24 : Int32) * (24 : Int32)) &&& 31)) / (5 : Int32) * (5 : Int32)) - (1 : Int32))), (0, .ref v0), (2, .int v2), (3, .int v3), (5, .int v5), (6, .int v6), (7, .int v7), (8, .int v8)]) dL_act_444 rfl (by decide) rfl ?_
          refine j_aload_n X (pc' := 447) (kk := 0) (i := 0) 1 rfl rfl dL_act_446 rfl ?_
          refine j_iload X (pc' := 449) (i := 9) 0 rfl dL_act_447 rfl ?_
          obtain ⟨hz142, hw10⟩ := hw9
          refine j_callSWi X (pc' := 452) (cells' := cz + 1) (slots' := 8 * (cz) + 6) (As := [.ref v0, .int (((v2 >>> ((v8 - v8 / (24 : Int32) * (24 : Int32)) &&& 31)) - (v2 >>> ((v8 - v8 / (24 : Int32) * (24 : Int32)) &&& 31)) / (5 : Int32) * (5 : Int32)) - (1 : Int32))]) (rest := []) (c_L_tells l G A hl0 v0 (((v2 >>> ((v8 - v8 / (24 : Int32) * (24 : Int32)) &&& 31)) - (v2 >>> ((v8 - v8 / (24 : Int32) * (24 : Int32)) &&& 31)) / (5 : Int32) * (5 : Int32)) - (1 : Int32)) μ140 _ hw10) (gk_L_tells wt_2_188) hd_L_tells (rmL_fit (k1 := 2) (k := 80) (by omega) (by decide)) rfl rfl (Nat.le_of_ble_eq_true rfl) dL_act_449 rfl ⟨by show _ ≤ 3000; omega, by show _ ≤ 24000; omega⟩ rfl rfl (fun r143 μ146 hw11 => ?_)
          refine j_widen (k1 := cz + 1) (n1 := 8 * (cz + 1)) (by omega) (by omega) ?_
          refine j_pop X (pc' := 453) rfl dL_act_452 rfl ?_
          refine j_aload_n X (pc' := 454) (kk := 0) (i := 0) 1 rfl rfl dL_act_453 rfl ?_
          refine j_iload X (pc' := 456) (i := 5) 4 rfl dL_act_454 rfl ?_
          obtain ⟨hz147, hw12⟩ := hw11
          refine j_callSWi X (pc' := 459) (cells' := cz + 1 + 1) (slots' := 8 * (cz + 1) + 6) (As := [.ref v0, .int v5]) (rest := []) (c_L_wrong l G A hl0 kd hkd v0 v5 μ146 _ hw12) (gk_L_wrong wt_2_225) hd_L_wrong (rmL_fit (k1 := 77) (k := 80) (by omega) (by decide)) rfl rfl (Nat.le_of_ble_eq_true rfl) dL_act_456 rfl ⟨by show _ ≤ 3000; omega, by show _ ≤ 24000; omega⟩ rfl rfl (fun r148 μ151 hw13 => ?_)
          refine j_widen (k1 := cz + 2) (n1 := 8 * (cz + 2)) (by omega) (by omega) ?_
          refine j_istore X (pc' := 461) (i := 10) (loc' := [(10, .int r148), (9, .int (((v2 >>> ((v8 - v8 / (24 : Int32) * (24 : Int32)) &&& 31)) - (v2 >>> ((v8 - v8 / (24 : Int32) * (24 : Int32)) &&& 31)) / (5 : Int32) * (5 : Int32)) - (1 : Int32))), (0, .ref v0), (2, .int v2), (3, .int v3), (5, .int v5), (6, .int v6), (7, .int v7), (8, .int v8)]) dL_act_459 rfl (by decide) rfl ?_
          refine j_iload X (pc' := 463) (i := 10) 0 rfl dL_act_461 rfl ?_
          refine j_iload X (pc' := 465) (i := 7) 7 rfl dL_act_463 rfl ?_
          refine j_icmp_ne X (pc' := 468) (tgt := 481) dL_act_465 rfl (by decide) (fun c152 => ?_) (fun c152 => ?_)
          · have hw14 := hw13.1 c152
            refine j_iload X (pc' := 483) (i := 10) 0 rfl dL_act_481 rfl ?_
            refine j_istore X (pc' := 485) (i := 7) (loc' := [(7, .int r148), (10, .int r148), (9, .int (((v2 >>> ((v8 - v8 / (24 : Int32) * (24 : Int32)) &&& 31)) - (v2 >>> ((v8 - v8 / (24 : Int32) * (24 : Int32)) &&& 31)) / (5 : Int32) * (5 : Int32)) - (1 : Int32))), (0, .ref v0), (2, .int v2), (3, .int v3), (5, .int v5), (6, .int v6), (8, .int v8)]) dL_act_483 rfl (by decide) rfl ?_
            refine j_iinc X (pc' := 488) (i := 8) (v := v8 + 1) (loc' := [(8, .int (v8 + 1)), (7, .int r148), (10, .int r148), (9, .int (((v2 >>> ((v8 - v8 / (24 : Int32) * (24 : Int32)) &&& 31)) - (v2 >>> ((v8 - v8 / (24 : Int32) * (24 : Int32)) &&& 31)) / (5 : Int32) * (5 : Int32)) - (1 : Int32))), (0, .ref v0), (2, .int v2), (3, .int v3), (5, .int v5), (6, .int v6)]) 8 rfl rfl dL_act_485 rfl (by decide) rfl ?_
            refine j_goto X (tgt := 412) dL_act_488 (by decide) ?_
            refine j_loc [4, 5, 6, 7, 8, 1, 0] rfl ?_
            exact ih _ _ _ _ _ _ _ _ _ hw14
          · have hw15 := hw13.2 c152
            refine j_aload_n X (pc' := 469) (kk := 0) (i := 0) 2 rfl rfl dL_act_468 rfl ?_
            refine j_iload X (pc' := 471) (i := 5) 5 rfl dL_act_469 rfl ?_
            refine j_iload X (pc' := 473) (i := 7) 7 rfl dL_act_471 rfl ?_
            obtain ⟨hz153, hw16⟩ := hw15
            refine j_callSi X (pc' := 476) (cells' := cz + 2 + 100) (slots' := 8 * (cz + 2) + 800) (As := [.ref v0, .int v5, .int v7]) (rest := []) (c_L_again l G A hl0 kd hkd v0 v5 v7 μ151 _ hw16) (gk_L_again wt_3_172) hd_L_again (rmL_fit (k1 := 79) (k := 80) (by omega) (by decide)) rfl rfl (Nat.le_of_ble_eq_true rfl) dL_act_473 rfl ⟨by show _ ≤ 3000; omega, by show _ ≤ 24000; omega⟩ rfl rfl (fun r154 μ157 hw17 => ?_)
            refine j_widen (k1 := cz + 102) (n1 := 8 * (cz + 102)) (by omega) (by omega) ?_
            refine j_istore X (pc' := 478) (i := 7) (loc' := [(7, .int r154), (10, .int r148), (9, .int (((v2 >>> ((v8 - v8 / (24 : Int32) * (24 : Int32)) &&& 31)) - (v2 >>> ((v8 - v8 / (24 : Int32) * (24 : Int32)) &&& 31)) / (5 : Int32) * (5 : Int32)) - (1 : Int32))), (0, .ref v0), (2, .int v2), (3, .int v3), (5, .int v5), (6, .int v6), (8, .int v8)]) dL_act_476 rfl (by decide) rfl ?_
            refine j_goto X (tgt := 485) dL_act_478 (by decide) ?_
            refine j_iinc X (pc' := 488) (i := 8) (v := v8 + 1) (loc' := [(8, .int (v8 + 1)), (7, .int r154), (10, .int r148), (9, .int (((v2 >>> ((v8 - v8 / (24 : Int32) * (24 : Int32)) &&& 31)) - (v2 >>> ((v8 - v8 / (24 : Int32) * (24 : Int32)) &&& 31)) / (5 : Int32) * (5 : Int32)) - (1 : Int32))), (0, .ref v0), (2, .int v2), (3, .int v3), (5, .int v5), (6, .int v6)]) 8 rfl rfl dL_act_485 rfl (by decide) rfl ?_
            refine j_goto X (tgt := 412) dL_act_488 (by decide) ?_
            refine j_loc [4, 5, 6, 7, 8, 1, 0] rfl ?_
            exact ih _ _ _ _ _ _ _ _ _ hw17
def wb_L_act_407 (kd : Nat → Nat) (post : Int32 → Mm → Prop)  (v0 : Nat) (v2 : Int32) (v3 : Int32) (v5 : Int32) (v6 : Int32) (s0 : Int32) (μ : Mm) (cz : Nat) : Prop := ∃ n9, wb_L_act_412 kd post n9 v0 v2 v3 v5 v6 s0 (0 : Int32) μ cz
set_option maxHeartbeats 4000000 in
set_option maxRecDepth 100000 in
theorem tb_L_act_407 {p : Program} {l : Launch} {e : Env} {s : State} {m : MethodId} {args : Array Value} {below : List Frame} {meth : Method} {c : Code} {G : gG} {A : Nat → Prop} {kd : Nat → Nat} {post : Int32 → Mm → Prop} (X : Cx p l s m args meth c cL_act 11 (some .int) RL G A) (hl0 : l.stackTraces = false) (hkd : G.2.2 = kd) : ∀ (v0 : Nat) (v2 : Int32) (v3 : Int32) (v5 : Int32) (v6 : Int32) (s0 : Int32) (μ : Mm) (cz : Nat), wb_L_act_407 kd post v0 v2 v3 v5 v6 s0 μ cz → J p l e (rmL (80) 3000 24000) s m args below meth c 11 G A (MQ below (QG G A (pI post)) args s 3000 24000 A) cz (8 * cz) 407 [(0, .ref v0), (2, .int v2), (3, .int v3), (5, .int v5), (6, .int v6)] [.int s0] μ := by
  intro v0 v2 v3 v5 v6 s0 μ cz hw
  unfold wb_L_act_407 at hw
  refine j_istore X (pc' := 409) (i := 7) (loc' := [(7, .int s0), (0, .ref v0), (2, .int v2), (3, .int v3), (5, .int v5), (6, .int v6)]) dL_act_407 rfl (by decide) rfl ?_
  refine j_iconst X (pc' := 410) (v := 0) (by decide) dL_act_409 rfl ?_
  refine j_istore X (pc' := 412) (i := 8) (loc' := [(8, .int ((0 : Int32))), (7, .int s0), (0, .ref v0), (2, .int v2), (3, .int v3), (5, .int v5), (6, .int v6)]) dL_act_410 rfl (by decide) rfl ?_
  obtain ⟨n0, hw1⟩ := hw
  refine j_loc [2, 3, 4, 5, 6, 1, 0] rfl ?_
  exact tb_L_act_412 X hl0 hkd n0 _ _ _ _ _ _ _ _ _ hw1
def wb_L_act_385 (kd : Nat → Nat) (post : Int32 → Mm → Prop)  (v0 : Nat) (v2 : Int32) (v3 : Int32) (s0 : Int32) (μ : Mm) (cz : Nat) : Prop := cz ≤ 3000 ∧ (∃ f88, μ v0 = some (.inl (5, f88))) ∧ wp_X6_forget v0 μ (fun r86 μ89 => (¬ v3 = 0 → (cz + 1 ≤ 3000 ∧ wp_L_wrong kd v0 s0 μ89 (fun r92 μ95 => wb_L_act_407 kd post v0 v2 v3 s0 r86 r92 μ95 (cz + 1)))) ∧ (v3 = 0 → (wb_L_act_407 kd post v0 v2 v3 s0 r86 (-1 : Int32) μ89 cz)))
set_option maxHeartbeats 4000000 in
set_option maxRecDepth 100000 in
theorem tb_L_act_385 {p : Program} {l : Launch} {e : Env} {s : State} {m : MethodId} {args : Array Value} {below : List Frame} {meth : Method} {c : Code} {G : gG} {A : Nat → Prop} {kd : Nat → Nat} {post : Int32 → Mm → Prop} (X : Cx p l s m args meth c cL_act 11 (some .int) RL G A) (hl0 : l.stackTraces = false) (hkd : G.2.2 = kd) : ∀ (v0 : Nat) (v2 : Int32) (v3 : Int32) (s0 : Int32) (μ : Mm) (cz : Nat), wb_L_act_385 kd post v0 v2 v3 s0 μ cz → J p l e (rmL (80) 3000 24000) s m args below meth c 11 G A (MQ below (QG G A (pI post)) args s 3000 24000 A) cz (8 * cz) 385 [(0, .ref v0), (2, .int v2), (3, .int v3)] [.int s0] μ := by
  intro v0 v2 v3 s0 μ cz hw
  unfold wb_L_act_385 at hw
  refine j_istore X (pc' := 387) (i := 5) (loc' := [(5, .int s0), (0, .ref v0), (2, .int v2), (3, .int v3)]) dL_act_385 rfl (by decide) rfl ?_
  refine j_aload_n X (pc' := 388) (kk := 0) (i := 0) 1 rfl rfl dL_act_387 rfl ?_
  obtain ⟨hz85, hw1⟩ := hw
  obtain ⟨⟨f88, hm87⟩, hw2⟩ := hw1
  refine j_callVi X (pc' := 391) (cells' := cz + 0) (slots' := 8 * (cz) + 0) (As := []) (rest := []) (c_X6_forget l G A v0 μ _ hw2) (gk_X6_forget wt_3_168) hd_X6_forget (rmL_fit (k1 := 1) (k := 80) (by omega) (by decide)) hm87 rfl rfl rfl (Nat.le_of_ble_eq_true rfl) dL_act_388 rfl ⟨by show _ ≤ 3000; omega, by show _ ≤ 24000; omega⟩ rfl rfl (fun r86 μ89 hw3 => ?_)
  refine j_widen (k1 := cz) (n1 := 8 * (cz)) (by omega) (by omega) ?_
  refine j_istore X (pc' := 393) (i := 6) (loc' := [(6, .int r86), (5, .int s0), (0, .ref v0), (2, .int v2), (3, .int v3)]) dL_act_391 rfl (by decide) rfl ?_
  refine j_iload_n X (pc' := 394) (kk := 3) (i := 3) 4 rfl rfl dL_act_393 rfl ?_
  refine j_if_ne X (pc' := 397) (tgt := 401) dL_act_394 rfl (by decide) (fun c90 => ?_) (fun c90 => ?_)
  · have hw4 := hw3.1 c90
    refine j_aload_n X (pc' := 402) (kk := 0) (i := 0) 2 rfl rfl dL_act_401 rfl ?_
    refine j_iload X (pc' := 404) (i := 5) 1 rfl dL_act_402 rfl ?_
    obtain ⟨hz91, hw5⟩ := hw4
    refine j_callSWi X (pc' := 407) (cells' := cz + 1) (slots' := 8 * (cz) + 6) (As := [.ref v0, .int s0]) (rest := []) (c_L_wrong l G A hl0 kd hkd v0 s0 μ89 _ hw5) (gk_L_wrong wt_2_225) hd_L_wrong (rmL_fit (k1 := 77) (k := 80) (by omega) (by decide)) rfl rfl (Nat.le_of_ble_eq_true rfl) dL_act_404 rfl ⟨by show _ ≤ 3000; omega, by show _ ≤ 24000; omega⟩ rfl rfl (fun r92 μ95 hw6 => ?_)
    refine j_widen (k1 := cz + 1) (n1 := 8 * (cz + 1)) (by omega) (by omega) ?_
    refine j_loc [2, 3, 4, 1, 0] rfl ?_
    exact tb_L_act_407 X hl0 hkd _ _ _ _ _ _ _ _ hw6
  · have hw7 := hw3.2 c90
    refine j_iconst X (pc' := 398) (v := (-1)) (by decide) dL_act_397 rfl ?_
    refine j_goto X (tgt := 407) dL_act_398 (by decide) ?_
    refine j_loc [2, 3, 4, 1, 0] rfl ?_
    exact tb_L_act_407 X hl0 hkd _ _ _ _ _ _ _ _ hw7
def wb_L_act_370 (kd : Nat → Nat) (post : Int32 → Mm → Prop)  (v0 : Nat) (v2 : Int32) (v3 : Int32) (μ : Mm) (cz : Nat) : Prop := (¬ v3 = 0 → (¬ v3 = 0 ∧ wb_L_act_385 kd post v0 v2 v3 ((v3 - (1 : Int32)) - (v2 - v2 / v3 * v3)) μ cz)) ∧ (v3 = 0 → (wb_L_act_385 kd post v0 v2 v3 (0 : Int32) μ cz))
set_option maxHeartbeats 4000000 in
set_option maxRecDepth 100000 in
theorem tb_L_act_370 {p : Program} {l : Launch} {e : Env} {s : State} {m : MethodId} {args : Array Value} {below : List Frame} {meth : Method} {c : Code} {G : gG} {A : Nat → Prop} {kd : Nat → Nat} {post : Int32 → Mm → Prop} (X : Cx p l s m args meth c cL_act 11 (some .int) RL G A) (hl0 : l.stackTraces = false) (hkd : G.2.2 = kd) : ∀ (v0 : Nat) (v2 : Int32) (v3 : Int32) (μ : Mm) (cz : Nat), wb_L_act_370 kd post v0 v2 v3 μ cz → J p l e (rmL (80) 3000 24000) s m args below meth c 11 G A (MQ below (QG G A (pI post)) args s 3000 24000 A) cz (8 * cz) 370 [(0, .ref v0), (2, .int v2), (3, .int v3)] [] μ := by
  intro v0 v2 v3 μ cz hw
  unfold wb_L_act_370 at hw
  refine j_iload_n X (pc' := 371) (kk := 3) (i := 3) 2 rfl rfl dL_act_370 rfl ?_
  refine j_if_ne X (pc' := 374) (tgt := 378) dL_act_371 rfl (by decide) (fun c10 => ?_) (fun c10 => ?_)
  · have hw1 := hw.1 c10
    refine j_iload_n X (pc' := 379) (kk := 3) (i := 3) 2 rfl rfl dL_act_378 rfl ?_
    refine j_iconst X (pc' := 380) (v := 1) (by decide) dL_act_379 rfl ?_
    refine j_isub X (pc' := 381) dL_act_380 rfl ?_
    refine j_iload_n X (pc' := 382) (kk := 2) (i := 2) 1 rfl rfl dL_act_381 rfl ?_
    refine j_iload_n X (pc' := 383) (kk := 3) (i := 3) 2 rfl rfl dL_act_382 rfl ?_
    obtain ⟨h11, hw2⟩ := hw1
    refine j_irem X (pc' := 384) h11 dL_act_383 rfl ?_
    refine j_isub X (pc' := 385) dL_act_384 rfl ?_
    exact tb_L_act_385 X hl0 hkd _ _ _ _ _ _ hw2
  · have hw3 := hw.2 c10
    refine j_iconst X (pc' := 375) (v := 0) (by decide) dL_act_374 rfl ?_
    refine j_goto X (tgt := 385) dL_act_375 (by decide) ?_
    exact tb_L_act_385 X hl0 hkd _ _ _ _ _ _ hw3
def wb_L_act_357 (kd : Nat → Nat) (post : Int32 → Mm → Prop)  (v0 : Nat) (v2 : Int32) (v4 : Int32) (μ : Mm) (cz : Nat) : Prop := cz + 3 ≤ 3000 ∧ wp_L_reads kd v0 v4 ((v2 / (16 : Int32)) - (v2 / (16 : Int32)) / (4 : Int32) * (4 : Int32)) μ (fun r80 μ83 => cz + 3 ≤ 3000 ∧ post r80 μ83)
set_option maxHeartbeats 4000000 in
set_option maxRecDepth 100000 in
theorem tb_L_act_357 {p : Program} {l : Launch} {e : Env} {s : State} {m : MethodId} {args : Array Value} {below : List Frame} {meth : Method} {c : Code} {G : gG} {A : Nat → Prop} {kd : Nat → Nat} {post : Int32 → Mm → Prop} (X : Cx p l s m args meth c cL_act 11 (some .int) RL G A) (hl0 : l.stackTraces = false) (hkd : G.2.2 = kd) : ∀ (v0 : Nat) (v2 : Int32) (v4 : Int32) (μ : Mm) (cz : Nat), wb_L_act_357 kd post v0 v2 v4 μ cz → J p l e (rmL (80) 3000 24000) s m args below meth c 11 G A (MQ below (QG G A (pI post)) args s 3000 24000 A) cz (8 * cz) 357 [(0, .ref v0), (2, .int v2), (4, .int v4)] [] μ := by
  intro v0 v2 v4 μ cz hw
  unfold wb_L_act_357 at hw
  refine j_aload_n X (pc' := 358) (kk := 0) (i := 0) 0 rfl rfl dL_act_357 rfl ?_
  refine j_iload X (pc' := 360) (i := 4) 2 rfl dL_act_358 rfl ?_
  refine j_iload_n X (pc' := 361) (kk := 2) (i := 2) 1 rfl rfl dL_act_360 rfl ?_
  refine j_bipush X (pc' := 363) (v := 16) (by decide) dL_act_361 rfl ?_
  refine j_idiv X (pc' := 364) (by decide) dL_act_363 rfl ?_
  refine j_iconst X (pc' := 365) (v := 4) (by decide) dL_act_364 rfl ?_
  refine j_irem X (pc' := 366) (by decide) dL_act_365 rfl ?_
  obtain ⟨hz79, hw1⟩ := hw
  refine j_callSWi X (pc' := 369) (cells' := cz + 3) (slots' := 8 * (cz) + 18) (As := [.ref v0, .int v4, .int ((v2 / (16 : Int32)) - (v2 / (16 : Int32)) / (4 : Int32) * (4 : Int32))]) (rest := []) (c_L_reads l G A hl0 kd hkd v0 v4 ((v2 / (16 : Int32)) - (v2 / (16 : Int32)) / (4 : Int32) * (4 : Int32)) μ _ hw1) (gk_L_reads wt_3_81) hd_L_reads (rmL_fit (k1 := 78) (k := 80) (by omega) (by decide)) rfl rfl (Nat.le_of_ble_eq_true rfl) dL_act_366 rfl ⟨by show _ ≤ 3000; omega, by show _ ≤ 24000; omega⟩ rfl rfl (fun r80 μ83 hw2 => ?_)
  refine j_widen (k1 := cz + 3) (n1 := 8 * (cz + 3)) (by omega) (by omega) ?_
  obtain ⟨hz84, hw3⟩ := hw2
  exact j_iret X ⟨_, rfl, hw3⟩ (by omega) (by omega) dL_act_369
def wb_L_act_353 (kd : Nat → Nat) (post : Int32 → Mm → Prop)  (s0 : Int32) (s1 : Nat) (μ : Mm) (cz : Nat) : Prop := cz + 1 ≤ 3000 ∧ wp_L_cuts s1 s0 μ (fun r123 μ126 => cz + 1 ≤ 3000 ∧ post r123 μ126)
set_option maxHeartbeats 4000000 in
set_option maxRecDepth 100000 in
theorem tb_L_act_353 {p : Program} {l : Launch} {e : Env} {s : State} {m : MethodId} {args : Array Value} {below : List Frame} {meth : Method} {c : Code} {G : gG} {A : Nat → Prop} {kd : Nat → Nat} {post : Int32 → Mm → Prop} (X : Cx p l s m args meth c cL_act 11 (some .int) RL G A) (hl0 : l.stackTraces = false) (hkd : G.2.2 = kd) : ∀ (s0 : Int32) (s1 : Nat) (μ : Mm) (cz : Nat), wb_L_act_353 kd post s0 s1 μ cz → J p l e (rmL (80) 3000 24000) s m args below meth c 11 G A (MQ below (QG G A (pI post)) args s 3000 24000 A) cz (8 * cz) 353 [] [.int s0, .ref s1] μ := by
  intro s0 s1 μ cz hw
  unfold wb_L_act_353 at hw
  obtain ⟨hz122, hw1⟩ := hw
  refine j_callSWi X (pc' := 356) (cells' := cz + 1) (slots' := 8 * (cz) + 6) (As := [.ref s1, .int s0]) (rest := []) (c_L_cuts l G A hl0 s1 s0 μ _ hw1) (gk_L_cuts wt_3_72) hd_L_cuts (rmL_fit (k1 := 2) (k := 80) (by omega) (by decide)) rfl rfl (Nat.le_of_ble_eq_true rfl) dL_act_353 rfl ⟨by show _ ≤ 3000; omega, by show _ ≤ 24000; omega⟩ rfl rfl (fun r123 μ126 hw2 => ?_)
  refine j_widen (k1 := cz + 1) (n1 := 8 * (cz + 1)) (by omega) (by omega) ?_
  obtain ⟨hz127, hw3⟩ := hw2
  exact j_iret X ⟨_, rfl, hw3⟩ (by omega) (by omega) dL_act_356
def wb_L_act_349 (kd : Nat → Nat) (post : Int32 → Mm → Prop)  (v0 : Nat) (s0 : Nat) (μ : Mm) (cz : Nat) : Prop := cz ≤ 3000 ∧ (∃ f120, μ v0 = some (.inl (5, f120))) ∧ wp_X6_bits v0 μ (fun r118 μ121 => wb_L_act_353 kd post r118 s0 μ121 cz)
set_option maxHeartbeats 4000000 in
set_option maxRecDepth 100000 in
theorem tb_L_act_349 {p : Program} {l : Launch} {e : Env} {s : State} {m : MethodId} {args : Array Value} {below : List Frame} {meth : Method} {c : Code} {G : gG} {A : Nat → Prop} {kd : Nat → Nat} {post : Int32 → Mm → Prop} (X : Cx p l s m args meth c cL_act 11 (some .int) RL G A) (hl0 : l.stackTraces = false) (hkd : G.2.2 = kd) : ∀ (v0 : Nat) (s0 : Nat) (μ : Mm) (cz : Nat), wb_L_act_349 kd post v0 s0 μ cz → J p l e (rmL (80) 3000 24000) s m args below meth c 11 G A (MQ below (QG G A (pI post)) args s 3000 24000 A) cz (8 * cz) 349 [(0, .ref v0)] [.ref s0] μ := by
  intro v0 s0 μ cz hw
  unfold wb_L_act_349 at hw
  refine j_aload_n X (pc' := 350) (kk := 0) (i := 0) 0 rfl rfl dL_act_349 rfl ?_
  obtain ⟨hz117, hw1⟩ := hw
  obtain ⟨⟨f120, hm119⟩, hw2⟩ := hw1
  refine j_callVi X (pc' := 353) (cells' := cz + 0) (slots' := 8 * (cz) + 0) (As := []) (rest := [.ref s0]) (c_X6_bits l G A v0 μ _ hw2) (gk_X6_bits wt_1_136) hd_X6_bits (rmL_fit (k1 := 1) (k := 80) (by omega) (by decide)) hm119 rfl rfl rfl (Nat.le_of_ble_eq_true rfl) dL_act_350 rfl ⟨by show _ ≤ 3000; omega, by show _ ≤ 24000; omega⟩ rfl rfl (fun r118 μ121 hw3 => ?_)
  refine j_widen (k1 := cz) (n1 := 8 * (cz)) (by omega) (by omega) ?_
  refine j_loc [] rfl ?_
  exact tb_L_act_353 X hl0 hkd _ _ _ _ hw3
def wb_L_act_324 (kd : Nat → Nat) (post : Int32 → Mm → Prop)  (v0 : Nat) (v2 : Int32) (μ : Mm) (cz : Nat) : Prop := (¬ (v2 - v2 / (3 : Int32) * (3 : Int32)) = 0 → (wb_L_act_349 kd post v0 v0 μ cz)) ∧ ((v2 - v2 / (3 : Int32) * (3 : Int32)) = 0 → (cz ≤ 3000 ∧ (∃ f70, μ v0 = some (.inl (5, f70))) ∧ wp_X6_bits v0 μ (fun r68 μ71 => (r68 ≤ 0 → (wb_L_act_349 kd post v0 v0 μ71 cz)) ∧ (¬ r68 ≤ 0 → (cz ≤ 3000 ∧ (∃ f76, μ71 v0 = some (.inl (5, f76))) ∧ wp_X6_bits v0 μ71 (fun r74 μ77 => ¬ r74 = 0 ∧ wb_L_act_353 kd post ((v2 / (3 : Int32)) - (v2 / (3 : Int32)) / r74 * r74) v0 μ77 cz))))))
set_option maxHeartbeats 4000000 in
set_option maxRecDepth 100000 in
theorem tb_L_act_324 {p : Program} {l : Launch} {e : Env} {s : State} {m : MethodId} {args : Array Value} {below : List Frame} {meth : Method} {c : Code} {G : gG} {A : Nat → Prop} {kd : Nat → Nat} {post : Int32 → Mm → Prop} (X : Cx p l s m args meth c cL_act 11 (some .int) RL G A) (hl0 : l.stackTraces = false) (hkd : G.2.2 = kd) : ∀ (v0 : Nat) (v2 : Int32) (μ : Mm) (cz : Nat), wb_L_act_324 kd post v0 v2 μ cz → J p l e (rmL (80) 3000 24000) s m args below meth c 11 G A (MQ below (QG G A (pI post)) args s 3000 24000 A) cz (8 * cz) 324 [(0, .ref v0), (2, .int v2)] [] μ := by
  intro v0 v2 μ cz hw
  unfold wb_L_act_324 at hw
  refine j_aload_n X (pc' := 325) (kk := 0) (i := 0) 0 rfl rfl dL_act_324 rfl ?_
  refine j_iload_n X (pc' := 326) (kk := 2) (i := 2) 1 rfl rfl dL_act_325 rfl ?_
  refine j_iconst X (pc' := 327) (v := 3) (by decide) dL_act_326 rfl ?_
  refine j_irem X (pc' := 328) (by decide) dL_act_327 rfl ?_
  refine j_if_ne X (pc' := 331) (tgt := 349) dL_act_328 rfl (by decide) (fun c66 => ?_) (fun c66 => ?_)
  · have hw1 := hw.1 c66
    refine j_loc [0] rfl ?_
    exact tb_L_act_349 X hl0 hkd _ _ _ _ hw1
  · have hw2 := hw.2 c66
    refine j_aload_n X (pc' := 332) (kk := 0) (i := 0) 0 rfl rfl dL_act_331 rfl ?_
    obtain ⟨hz67, hw3⟩ := hw2
    obtain ⟨⟨f70, hm69⟩, hw4⟩ := hw3
    refine j_callVi X (pc' := 335) (cells' := cz + 0) (slots' := 8 * (cz) + 0) (As := []) (rest := [.ref v0]) (c_X6_bits l G A v0 μ _ hw4) (gk_X6_bits wt_1_136) hd_X6_bits (rmL_fit (k1 := 1) (k := 80) (by omega) (by decide)) hm69 rfl rfl rfl (Nat.le_of_ble_eq_true rfl) dL_act_332 rfl ⟨by show _ ≤ 3000; omega, by show _ ≤ 24000; omega⟩ rfl rfl (fun r68 μ71 hw5 => ?_)
    refine j_widen (k1 := cz) (n1 := 8 * (cz)) (by omega) (by omega) ?_
    refine j_if_le X (pc' := 338) (tgt := 349) dL_act_335 rfl (by decide) (fun c72 => ?_) (fun c72 => ?_)
    · have hw6 := hw5.1 c72
      refine j_loc [0] rfl ?_
      exact tb_L_act_349 X hl0 hkd _ _ _ _ hw6
    · have hw7 := hw5.2 c72
      refine j_iload_n X (pc' := 339) (kk := 2) (i := 2) 1 rfl rfl dL_act_338 rfl ?_
      refine j_iconst X (pc' := 340) (v := 3) (by decide) dL_act_339 rfl ?_
      refine j_idiv X (pc' := 341) (by decide) dL_act_340 rfl ?_
      refine j_aload_n X (pc' := 342) (kk := 0) (i := 0) 0 rfl rfl dL_act_341 rfl ?_
      obtain ⟨hz73, hw8⟩ := hw7
      obtain ⟨⟨f76, hm75⟩, hw9⟩ := hw8
      refine j_callVi X (pc' := 345) (cells' := cz + 0) (slots' := 8 * (cz) + 0) (As := []) (rest := [.int (v2 / (3 : Int32)), .ref v0]) (c_X6_bits l G A v0 μ71 _ hw9) (gk_X6_bits wt_1_136) hd_X6_bits (rmL_fit (k1 := 1) (k := 80) (by omega) (by decide)) hm75 rfl rfl rfl (Nat.le_of_ble_eq_true rfl) dL_act_342 rfl ⟨by show _ ≤ 3000; omega, by show _ ≤ 24000; omega⟩ rfl rfl (fun r74 μ77 hw10 => ?_)
      refine j_widen (k1 := cz) (n1 := 8 * (cz)) (by omega) (by omega) ?_
      obtain ⟨h78, hw11⟩ := hw10
      refine j_irem X (pc' := 346) h78 dL_act_345 rfl ?_
      refine j_goto X (tgt := 353) dL_act_346 (by decide) ?_
      refine j_loc [] rfl ?_
      exact tb_L_act_353 X hl0 hkd _ _ _ _ hw11
def wb_L_act_302 (kd : Nat → Nat) (post : Int32 → Mm → Prop)  (v0 : Nat) (v2 : Int32) (μ : Mm) (cz : Nat) : Prop := cz ≤ 3000 ∧ (∃ f50, μ v0 = some (.inl (5, f50))) ∧ wp_X6_bits v0 μ (fun r48 μ51 => (¬ r48 = 0 → (cz ≤ 3000 ∧ (∃ f56, μ51 v0 = some (.inl (5, f56))) ∧ wp_X6_bits v0 μ51 (fun r54 μ57 => ¬ r54 = 0 ∧ cz + 1 ≤ 3000 ∧ wp_L_flips v0 (v2 - v2 / r54 * r54) μ57 (fun r60 μ63 => cz + 1 ≤ 3000 ∧ post r60 μ63)))) ∧ (r48 = 0 → (cz ≤ 3000 ∧ post (0 : Int32) μ51)))
set_option maxHeartbeats 4000000 in
set_option maxRecDepth 100000 in
theorem tb_L_act_302 {p : Program} {l : Launch} {e : Env} {s : State} {m : MethodId} {args : Array Value} {below : List Frame} {meth : Method} {c : Code} {G : gG} {A : Nat → Prop} {kd : Nat → Nat} {post : Int32 → Mm → Prop} (X : Cx p l s m args meth c cL_act 11 (some .int) RL G A) (hl0 : l.stackTraces = false) (hkd : G.2.2 = kd) : ∀ (v0 : Nat) (v2 : Int32) (μ : Mm) (cz : Nat), wb_L_act_302 kd post v0 v2 μ cz → J p l e (rmL (80) 3000 24000) s m args below meth c 11 G A (MQ below (QG G A (pI post)) args s 3000 24000 A) cz (8 * cz) 302 [(0, .ref v0), (2, .int v2)] [] μ := by
  intro v0 v2 μ cz hw
  unfold wb_L_act_302 at hw
  refine j_aload_n X (pc' := 303) (kk := 0) (i := 0) 0 rfl rfl dL_act_302 rfl ?_
  obtain ⟨hz47, hw1⟩ := hw
  obtain ⟨⟨f50, hm49⟩, hw2⟩ := hw1
  refine j_callVi X (pc' := 306) (cells' := cz + 0) (slots' := 8 * (cz) + 0) (As := []) (rest := []) (c_X6_bits l G A v0 μ _ hw2) (gk_X6_bits wt_1_136) hd_X6_bits (rmL_fit (k1 := 1) (k := 80) (by omega) (by decide)) hm49 rfl rfl rfl (Nat.le_of_ble_eq_true rfl) dL_act_303 rfl ⟨by show _ ≤ 3000; omega, by show _ ≤ 24000; omega⟩ rfl rfl (fun r48 μ51 hw3 => ?_)
  refine j_widen (k1 := cz) (n1 := 8 * (cz)) (by omega) (by omega) ?_
  refine j_if_ne X (pc' := 309) (tgt := 313) dL_act_306 rfl (by decide) (fun c52 => ?_) (fun c52 => ?_)
  · have hw4 := hw3.1 c52
    refine j_aload_n X (pc' := 314) (kk := 0) (i := 0) 0 rfl rfl dL_act_313 rfl ?_
    refine j_iload_n X (pc' := 315) (kk := 2) (i := 2) 1 rfl rfl dL_act_314 rfl ?_
    refine j_aload_n X (pc' := 316) (kk := 0) (i := 0) 0 rfl rfl dL_act_315 rfl ?_
    obtain ⟨hz53, hw5⟩ := hw4
    obtain ⟨⟨f56, hm55⟩, hw6⟩ := hw5
    refine j_callVi X (pc' := 319) (cells' := cz + 0) (slots' := 8 * (cz) + 0) (As := []) (rest := [.int v2, .ref v0]) (c_X6_bits l G A v0 μ51 _ hw6) (gk_X6_bits wt_1_136) hd_X6_bits (rmL_fit (k1 := 1) (k := 80) (by omega) (by decide)) hm55 rfl rfl rfl (Nat.le_of_ble_eq_true rfl) dL_act_316 rfl ⟨by show _ ≤ 3000; omega, by show _ ≤ 24000; omega⟩ rfl rfl (fun r54 μ57 hw7 => ?_)
    refine j_widen (k1 := cz) (n1 := 8 * (cz)) (by omega) (by omega) ?_
    obtain ⟨h58, hw8⟩ := hw7
    refine j_irem X (pc' := 320) h58 dL_act_319 rfl ?_
    obtain ⟨hz59, hw9⟩ := hw8
    refine j_callSWi X (pc' := 323) (cells' := cz + 1) (slots' := 8 * (cz) + 6) (As := [.ref v0, .int (v2 - v2 / r54 * r54)]) (rest := []) (c_L_flips l G A hl0 v0 (v2 - v2 / r54 * r54) μ57 _ hw9) (gk_L_flips wt_3_64) hd_L_flips (rmL_fit (k1 := 3) (k := 80) (by omega) (by decide)) rfl rfl (Nat.le_of_ble_eq_true rfl) dL_act_320 rfl ⟨by show _ ≤ 3000; omega, by show _ ≤ 24000; omega⟩ rfl rfl (fun r60 μ63 hw10 => ?_)
    refine j_widen (k1 := cz + 1) (n1 := 8 * (cz + 1)) (by omega) (by omega) ?_
    obtain ⟨hz64, hw11⟩ := hw10
    exact j_iret X ⟨_, rfl, hw11⟩ (by omega) (by omega) dL_act_323
  · have hw12 := hw3.2 c52
    refine j_iconst X (pc' := 310) (v := 0) (by decide) dL_act_309 rfl ?_
    refine j_goto X (tgt := 323) dL_act_310 (by decide) ?_
    obtain ⟨hz65, hw13⟩ := hw12
    exact j_iret X ⟨_, rfl, hw13⟩ (by omega) (by omega) dL_act_323
def wb_L_act_295 (kd : Nat → Nat) (post : Int32 → Mm → Prop)  (v0 : Nat) (v4 : Int32) (μ : Mm) (cz : Nat) : Prop := cz + 2 ≤ 3000 ∧ wp_L_writes kd v0 v4 μ (fun r42 μ45 => cz + 2 ≤ 3000 ∧ post r42 μ45)
set_option maxHeartbeats 4000000 in
set_option maxRecDepth 100000 in
theorem tb_L_act_295 {p : Program} {l : Launch} {e : Env} {s : State} {m : MethodId} {args : Array Value} {below : List Frame} {meth : Method} {c : Code} {G : gG} {A : Nat → Prop} {kd : Nat → Nat} {post : Int32 → Mm → Prop} (X : Cx p l s m args meth c cL_act 11 (some .int) RL G A) (hl0 : l.stackTraces = false) (hkd : G.2.2 = kd) : ∀ (v0 : Nat) (v4 : Int32) (μ : Mm) (cz : Nat), wb_L_act_295 kd post v0 v4 μ cz → J p l e (rmL (80) 3000 24000) s m args below meth c 11 G A (MQ below (QG G A (pI post)) args s 3000 24000 A) cz (8 * cz) 295 [(0, .ref v0), (4, .int v4)] [] μ := by
  intro v0 v4 μ cz hw
  unfold wb_L_act_295 at hw
  refine j_aload_n X (pc' := 296) (kk := 0) (i := 0) 0 rfl rfl dL_act_295 rfl ?_
  refine j_iload X (pc' := 298) (i := 4) 1 rfl dL_act_296 rfl ?_
  obtain ⟨hz41, hw1⟩ := hw
  refine j_callSWi X (pc' := 301) (cells' := cz + 2) (slots' := 8 * (cz) + 12) (As := [.ref v0, .int v4]) (rest := []) (c_L_writes l G A hl0 kd hkd v0 v4 μ _ hw1) (gk_L_writes wt_3_40) hd_L_writes (rmL_fit (k1 := 77) (k := 80) (by omega) (by decide)) rfl rfl (Nat.le_of_ble_eq_true rfl) dL_act_298 rfl ⟨by show _ ≤ 3000; omega, by show _ ≤ 24000; omega⟩ rfl rfl (fun r42 μ45 hw2 => ?_)
  refine j_widen (k1 := cz + 2) (n1 := 8 * (cz + 2)) (by omega) (by omega) ?_
  obtain ⟨hz46, hw3⟩ := hw2
  exact j_iret X ⟨_, rfl, hw3⟩ (by omega) (by omega) dL_act_301
def wb_L_act_290 (kd : Nat → Nat) (post : Int32 → Mm → Prop)  (v0 : Nat) (μ : Mm) (cz : Nat) : Prop := cz ≤ 3000 ∧ (∃ f38, μ v0 = some (.inl (5, f38))) ∧ wp_X6_forget v0 μ (fun r36 μ39 => cz ≤ 3000 ∧ post r36 μ39)
set_option maxHeartbeats 4000000 in
set_option maxRecDepth 100000 in
theorem tb_L_act_290 {p : Program} {l : Launch} {e : Env} {s : State} {m : MethodId} {args : Array Value} {below : List Frame} {meth : Method} {c : Code} {G : gG} {A : Nat → Prop} {kd : Nat → Nat} {post : Int32 → Mm → Prop} (X : Cx p l s m args meth c cL_act 11 (some .int) RL G A) (hl0 : l.stackTraces = false) (hkd : G.2.2 = kd) : ∀ (v0 : Nat) (μ : Mm) (cz : Nat), wb_L_act_290 kd post v0 μ cz → J p l e (rmL (80) 3000 24000) s m args below meth c 11 G A (MQ below (QG G A (pI post)) args s 3000 24000 A) cz (8 * cz) 290 [(0, .ref v0)] [] μ := by
  intro v0 μ cz hw
  unfold wb_L_act_290 at hw
  refine j_aload_n X (pc' := 291) (kk := 0) (i := 0) 0 rfl rfl dL_act_290 rfl ?_
  obtain ⟨hz35, hw1⟩ := hw
  obtain ⟨⟨f38, hm37⟩, hw2⟩ := hw1
  refine j_callVi X (pc' := 294) (cells' := cz + 0) (slots' := 8 * (cz) + 0) (As := []) (rest := []) (c_X6_forget l G A v0 μ _ hw2) (gk_X6_forget wt_3_168) hd_X6_forget (rmL_fit (k1 := 1) (k := 80) (by omega) (by decide)) hm37 rfl rfl rfl (Nat.le_of_ble_eq_true rfl) dL_act_291 rfl ⟨by show _ ≤ 3000; omega, by show _ ≤ 24000; omega⟩ rfl rfl (fun r36 μ39 hw3 => ?_)
  refine j_widen (k1 := cz) (n1 := 8 * (cz)) (by omega) (by omega) ?_
  obtain ⟨hz40, hw4⟩ := hw3
  exact j_iret X ⟨_, rfl, hw4⟩ (by omega) (by omega) dL_act_294
def wb_L_act_286 (kd : Nat → Nat) (post : Int32 → Mm → Prop)  (s0 : Int32) (s1 : Nat) (μ : Mm) (cz : Nat) : Prop := cz + 1 ≤ 3000 ∧ wp_L_tells s1 s0 μ (fun r112 μ115 => cz + 1 ≤ 3000 ∧ post r112 μ115)
set_option maxHeartbeats 4000000 in
set_option maxRecDepth 100000 in
theorem tb_L_act_286 {p : Program} {l : Launch} {e : Env} {s : State} {m : MethodId} {args : Array Value} {below : List Frame} {meth : Method} {c : Code} {G : gG} {A : Nat → Prop} {kd : Nat → Nat} {post : Int32 → Mm → Prop} (X : Cx p l s m args meth c cL_act 11 (some .int) RL G A) (hl0 : l.stackTraces = false) (hkd : G.2.2 = kd) : ∀ (s0 : Int32) (s1 : Nat) (μ : Mm) (cz : Nat), wb_L_act_286 kd post s0 s1 μ cz → J p l e (rmL (80) 3000 24000) s m args below meth c 11 G A (MQ below (QG G A (pI post)) args s 3000 24000 A) cz (8 * cz) 286 [] [.int s0, .ref s1] μ := by
  intro s0 s1 μ cz hw
  unfold wb_L_act_286 at hw
  obtain ⟨hz111, hw1⟩ := hw
  refine j_callSWi X (pc' := 289) (cells' := cz + 1) (slots' := 8 * (cz) + 6) (As := [.ref s1, .int s0]) (rest := []) (c_L_tells l G A hl0 s1 s0 μ _ hw1) (gk_L_tells wt_2_188) hd_L_tells (rmL_fit (k1 := 2) (k := 80) (by omega) (by decide)) rfl rfl (Nat.le_of_ble_eq_true rfl) dL_act_286 rfl ⟨by show _ ≤ 3000; omega, by show _ ≤ 24000; omega⟩ rfl rfl (fun r112 μ115 hw2 => ?_)
  refine j_widen (k1 := cz + 1) (n1 := 8 * (cz + 1)) (by omega) (by omega) ?_
  obtain ⟨hz116, hw3⟩ := hw2
  exact j_iret X ⟨_, rfl, hw3⟩ (by omega) (by omega) dL_act_289
def wb_L_act_263 (kd : Nat → Nat) (post : Int32 → Mm → Prop)  (v0 : Nat) (v2 : Int32) (μ : Mm) (cz : Nat) : Prop := (¬ (v2 - v2 / (3 : Int32) * (3 : Int32)) = 0 → (wb_L_act_286 kd post ((v2 / (3 : Int32)) - (v2 / (3 : Int32)) / (2 : Int32) * (2 : Int32)) v0 μ cz)) ∧ ((v2 - v2 / (3 : Int32) * (3 : Int32)) = 0 → (wb_L_act_286 kd post (((v2 / (3 : Int32)) - (v2 / (3 : Int32)) / (9 : Int32) * (9 : Int32)) - (4 : Int32)) v0 μ cz))
set_option maxHeartbeats 4000000 in
set_option maxRecDepth 100000 in
theorem tb_L_act_263 {p : Program} {l : Launch} {e : Env} {s : State} {m : MethodId} {args : Array Value} {below : List Frame} {meth : Method} {c : Code} {G : gG} {A : Nat → Prop} {kd : Nat → Nat} {post : Int32 → Mm → Prop} (X : Cx p l s m args meth c cL_act 11 (some .int) RL G A) (hl0 : l.stackTraces = false) (hkd : G.2.2 = kd) : ∀ (v0 : Nat) (v2 : Int32) (μ : Mm) (cz : Nat), wb_L_act_263 kd post v0 v2 μ cz → J p l e (rmL (80) 3000 24000) s m args below meth c 11 G A (MQ below (QG G A (pI post)) args s 3000 24000 A) cz (8 * cz) 263 [(0, .ref v0), (2, .int v2)] [] μ := by
  intro v0 v2 μ cz hw
  unfold wb_L_act_263 at hw
  refine j_aload_n X (pc' := 264) (kk := 0) (i := 0) 0 rfl rfl dL_act_263 rfl ?_
  refine j_iload_n X (pc' := 265) (kk := 2) (i := 2) 1 rfl rfl dL_act_264 rfl ?_
  refine j_iconst X (pc' := 266) (v := 3) (by decide) dL_act_265 rfl ?_
  refine j_irem X (pc' := 267) (by decide) dL_act_266 rfl ?_
  refine j_if_ne X (pc' := 270) (tgt := 281) dL_act_267 rfl (by decide) (fun c34 => ?_) (fun c34 => ?_)
  · have hw1 := hw.1 c34
    refine j_iload_n X (pc' := 282) (kk := 2) (i := 2) 1 rfl rfl dL_act_281 rfl ?_
    refine j_iconst X (pc' := 283) (v := 3) (by decide) dL_act_282 rfl ?_
    refine j_idiv X (pc' := 284) (by decide) dL_act_283 rfl ?_
    refine j_iconst X (pc' := 285) (v := 2) (by decide) dL_act_284 rfl ?_
    refine j_irem X (pc' := 286) (by decide) dL_act_285 rfl ?_
    refine j_loc [] rfl ?_
    exact tb_L_act_286 X hl0 hkd _ _ _ _ hw1
  · have hw2 := hw.2 c34
    refine j_iload_n X (pc' := 271) (kk := 2) (i := 2) 1 rfl rfl dL_act_270 rfl ?_
    refine j_iconst X (pc' := 272) (v := 3) (by decide) dL_act_271 rfl ?_
    refine j_idiv X (pc' := 273) (by decide) dL_act_272 rfl ?_
    refine j_bipush X (pc' := 275) (v := 9) (by decide) dL_act_273 rfl ?_
    refine j_irem X (pc' := 276) (by decide) dL_act_275 rfl ?_
    refine j_iconst X (pc' := 277) (v := 4) (by decide) dL_act_276 rfl ?_
    refine j_isub X (pc' := 278) dL_act_277 rfl ?_
    refine j_goto X (tgt := 286) dL_act_278 (by decide) ?_
    refine j_loc [] rfl ?_
    exact tb_L_act_286 X hl0 hkd _ _ _ _ hw2
def wb_L_act_259 (kd : Nat → Nat) (post : Int32 → Mm → Prop)  (s0 : Int32) (s1 : Int32) (s2 : Nat) (μ : Mm) (cz : Nat) : Prop := cz + 3 ≤ 3000 ∧ wp_L_extend kd s2 s1 s0 μ (fun r129 μ132 => cz + 3 ≤ 3000 ∧ post r129 μ132)
set_option maxHeartbeats 4000000 in
set_option maxRecDepth 100000 in
theorem tb_L_act_259 {p : Program} {l : Launch} {e : Env} {s : State} {m : MethodId} {args : Array Value} {below : List Frame} {meth : Method} {c : Code} {G : gG} {A : Nat → Prop} {kd : Nat → Nat} {post : Int32 → Mm → Prop} (X : Cx p l s m args meth c cL_act 11 (some .int) RL G A) (hl0 : l.stackTraces = false) (hkd : G.2.2 = kd) : ∀ (s0 : Int32) (s1 : Int32) (s2 : Nat) (μ : Mm) (cz : Nat), wb_L_act_259 kd post s0 s1 s2 μ cz → J p l e (rmL (80) 3000 24000) s m args below meth c 11 G A (MQ below (QG G A (pI post)) args s 3000 24000 A) cz (8 * cz) 259 [] [.int s0, .int s1, .ref s2] μ := by
  intro s0 s1 s2 μ cz hw
  unfold wb_L_act_259 at hw
  obtain ⟨hz128, hw1⟩ := hw
  refine j_callSWi X (pc' := 262) (cells' := cz + 3) (slots' := 8 * (cz) + 18) (As := [.ref s2, .int s1, .int s0]) (rest := []) (c_L_extend l G A hl0 kd hkd s2 s1 s0 μ _ hw1) (gk_L_extend wt_2_153) hd_L_extend (rmL_fit (k1 := 5) (k := 80) (by omega) (by decide)) rfl rfl (Nat.le_of_ble_eq_true rfl) dL_act_259 rfl ⟨by show _ ≤ 3000; omega, by show _ ≤ 24000; omega⟩ rfl rfl (fun r129 μ132 hw2 => ?_)
  refine j_widen (k1 := cz + 3) (n1 := 8 * (cz + 3)) (by omega) (by omega) ?_
  obtain ⟨hz133, hw3⟩ := hw2
  exact j_iret X ⟨_, rfl, hw3⟩ (by omega) (by omega) dL_act_262
def wb_L_act_245 (kd : Nat → Nat) (post : Int32 → Mm → Prop)  (v2 : Int32) (v3 : Int32) (s0 : Int32) (s1 : Nat) (μ : Mm) (cz : Nat) : Prop := (¬ v3 = 0 → (¬ v3 = 0 ∧ wb_L_act_259 kd post ((v2 / (16 : Int32)) - (v2 / (16 : Int32)) / v3 * v3) s0 s1 μ cz)) ∧ (v3 = 0 → (wb_L_act_259 kd post (0 : Int32) s0 s1 μ cz))
set_option maxHeartbeats 4000000 in
set_option maxRecDepth 100000 in
theorem tb_L_act_245 {p : Program} {l : Launch} {e : Env} {s : State} {m : MethodId} {args : Array Value} {below : List Frame} {meth : Method} {c : Code} {G : gG} {A : Nat → Prop} {kd : Nat → Nat} {post : Int32 → Mm → Prop} (X : Cx p l s m args meth c cL_act 11 (some .int) RL G A) (hl0 : l.stackTraces = false) (hkd : G.2.2 = kd) : ∀ (v2 : Int32) (v3 : Int32) (s0 : Int32) (s1 : Nat) (μ : Mm) (cz : Nat), wb_L_act_245 kd post v2 v3 s0 s1 μ cz → J p l e (rmL (80) 3000 24000) s m args below meth c 11 G A (MQ below (QG G A (pI post)) args s 3000 24000 A) cz (8 * cz) 245 [(2, .int v2), (3, .int v3)] [.int s0, .ref s1] μ := by
  intro v2 v3 s0 s1 μ cz hw
  unfold wb_L_act_245 at hw
  refine j_iload_n X (pc' := 246) (kk := 3) (i := 3) 1 rfl rfl dL_act_245 rfl ?_
  refine j_if_ne X (pc' := 249) (tgt := 253) dL_act_246 rfl (by decide) (fun c109 => ?_) (fun c109 => ?_)
  · have hw1 := hw.1 c109
    refine j_iload_n X (pc' := 254) (kk := 2) (i := 2) 0 rfl rfl dL_act_253 rfl ?_
    refine j_bipush X (pc' := 256) (v := 16) (by decide) dL_act_254 rfl ?_
    refine j_idiv X (pc' := 257) (by decide) dL_act_256 rfl ?_
    refine j_iload_n X (pc' := 258) (kk := 3) (i := 3) 1 rfl rfl dL_act_257 rfl ?_
    obtain ⟨h110, hw2⟩ := hw1
    refine j_irem X (pc' := 259) h110 dL_act_258 rfl ?_
    refine j_loc [] rfl ?_
    exact tb_L_act_259 X hl0 hkd _ _ _ _ _ hw2
  · have hw3 := hw.2 c109
    refine j_iconst X (pc' := 250) (v := 0) (by decide) dL_act_249 rfl ?_
    refine j_goto X (tgt := 259) dL_act_250 (by decide) ?_
    refine j_loc [] rfl ?_
    exact tb_L_act_259 X hl0 hkd _ _ _ _ _ hw3
def wb_L_act_229 (kd : Nat → Nat) (post : Int32 → Mm → Prop)  (v0 : Nat) (v2 : Int32) (v3 : Int32) (μ : Mm) (cz : Nat) : Prop := (¬ v3 = 0 → (¬ v3 = 0 ∧ wb_L_act_245 kd post v2 v3 ((v3 - (1 : Int32)) - (v2 - v2 / v3 * v3)) v0 μ cz)) ∧ (v3 = 0 → (wb_L_act_245 kd post v2 v3 (0 : Int32) v0 μ cz))
set_option maxHeartbeats 4000000 in
set_option maxRecDepth 100000 in
theorem tb_L_act_229 {p : Program} {l : Launch} {e : Env} {s : State} {m : MethodId} {args : Array Value} {below : List Frame} {meth : Method} {c : Code} {G : gG} {A : Nat → Prop} {kd : Nat → Nat} {post : Int32 → Mm → Prop} (X : Cx p l s m args meth c cL_act 11 (some .int) RL G A) (hl0 : l.stackTraces = false) (hkd : G.2.2 = kd) : ∀ (v0 : Nat) (v2 : Int32) (v3 : Int32) (μ : Mm) (cz : Nat), wb_L_act_229 kd post v0 v2 v3 μ cz → J p l e (rmL (80) 3000 24000) s m args below meth c 11 G A (MQ below (QG G A (pI post)) args s 3000 24000 A) cz (8 * cz) 229 [(0, .ref v0), (2, .int v2), (3, .int v3)] [] μ := by
  intro v0 v2 v3 μ cz hw
  unfold wb_L_act_229 at hw
  refine j_aload_n X (pc' := 230) (kk := 0) (i := 0) 0 rfl rfl dL_act_229 rfl ?_
  refine j_iload_n X (pc' := 231) (kk := 3) (i := 3) 2 rfl rfl dL_act_230 rfl ?_
  refine j_if_ne X (pc' := 234) (tgt := 238) dL_act_231 rfl (by decide) (fun c32 => ?_) (fun c32 => ?_)
  · have hw1 := hw.1 c32
    refine j_iload_n X (pc' := 239) (kk := 3) (i := 3) 2 rfl rfl dL_act_238 rfl ?_
    refine j_iconst X (pc' := 240) (v := 1) (by decide) dL_act_239 rfl ?_
    refine j_isub X (pc' := 241) dL_act_240 rfl ?_
    refine j_iload_n X (pc' := 242) (kk := 2) (i := 2) 1 rfl rfl dL_act_241 rfl ?_
    refine j_iload_n X (pc' := 243) (kk := 3) (i := 3) 2 rfl rfl dL_act_242 rfl ?_
    obtain ⟨h33, hw2⟩ := hw1
    refine j_irem X (pc' := 244) h33 dL_act_243 rfl ?_
    refine j_isub X (pc' := 245) dL_act_244 rfl ?_
    refine j_loc [1, 2] rfl ?_
    exact tb_L_act_245 X hl0 hkd _ _ _ _ _ _ hw2
  · have hw3 := hw.2 c32
    refine j_iconst X (pc' := 235) (v := 0) (by decide) dL_act_234 rfl ?_
    refine j_goto X (tgt := 245) dL_act_235 (by decide) ?_
    refine j_loc [1, 2] rfl ?_
    exact tb_L_act_245 X hl0 hkd _ _ _ _ _ _ hw3
def wb_L_act_224 (kd : Nat → Nat) (post : Int32 → Mm → Prop)  (v0 : Nat) (μ : Mm) (cz : Nat) : Prop := cz + 6 ≤ 3000 ∧ wp_L_choices kd v0 μ (fun r27 μ30 => cz + 6 ≤ 3000 ∧ post r27 μ30)
set_option maxHeartbeats 4000000 in
set_option maxRecDepth 100000 in
theorem tb_L_act_224 {p : Program} {l : Launch} {e : Env} {s : State} {m : MethodId} {args : Array Value} {below : List Frame} {meth : Method} {c : Code} {G : gG} {A : Nat → Prop} {kd : Nat → Nat} {post : Int32 → Mm → Prop} (X : Cx p l s m args meth c cL_act 11 (some .int) RL G A) (hl0 : l.stackTraces = false) (hkd : G.2.2 = kd) : ∀ (v0 : Nat) (μ : Mm) (cz : Nat), wb_L_act_224 kd post v0 μ cz → J p l e (rmL (80) 3000 24000) s m args below meth c 11 G A (MQ below (QG G A (pI post)) args s 3000 24000 A) cz (8 * cz) 224 [(0, .ref v0)] [] μ := by
  intro v0 μ cz hw
  unfold wb_L_act_224 at hw
  refine j_aload_n X (pc' := 225) (kk := 0) (i := 0) 0 rfl rfl dL_act_224 rfl ?_
  obtain ⟨hz26, hw1⟩ := hw
  refine j_callSWi X (pc' := 228) (cells' := cz + 6) (slots' := 8 * (cz) + 29) (As := [.ref v0]) (rest := []) (c_L_choices l G A hl0 kd hkd v0 μ _ hw1) (gk_L_choices wt_3_160) hd_L_choices (rmL_fit (k1 := 6) (k := 80) (by omega) (by decide)) rfl rfl (Nat.le_of_ble_eq_true rfl) dL_act_225 rfl ⟨by show _ ≤ 3000; omega, by show _ ≤ 24000; omega⟩ rfl rfl (fun r27 μ30 hw2 => ?_)
  refine j_widen (k1 := cz + 6) (n1 := 8 * (cz + 6)) (by omega) (by omega) ?_
  obtain ⟨hz31, hw3⟩ := hw2
  exact j_iret X ⟨_, rfl, hw3⟩ (by omega) (by omega) dL_act_228
def wb_L_act_219 (kd : Nat → Nat) (post : Int32 → Mm → Prop)  (v0 : Nat) (μ : Mm) (cz : Nat) : Prop := cz + 6 ≤ 3000 ∧ wp_L_sequences kd v0 μ (fun r21 μ24 => cz + 6 ≤ 3000 ∧ post r21 μ24)
set_option maxHeartbeats 4000000 in
set_option maxRecDepth 100000 in
theorem tb_L_act_219 {p : Program} {l : Launch} {e : Env} {s : State} {m : MethodId} {args : Array Value} {below : List Frame} {meth : Method} {c : Code} {G : gG} {A : Nat → Prop} {kd : Nat → Nat} {post : Int32 → Mm → Prop} (X : Cx p l s m args meth c cL_act 11 (some .int) RL G A) (hl0 : l.stackTraces = false) (hkd : G.2.2 = kd) : ∀ (v0 : Nat) (μ : Mm) (cz : Nat), wb_L_act_219 kd post v0 μ cz → J p l e (rmL (80) 3000 24000) s m args below meth c 11 G A (MQ below (QG G A (pI post)) args s 3000 24000 A) cz (8 * cz) 219 [(0, .ref v0)] [] μ := by
  intro v0 μ cz hw
  unfold wb_L_act_219 at hw
  refine j_aload_n X (pc' := 220) (kk := 0) (i := 0) 0 rfl rfl dL_act_219 rfl ?_
  obtain ⟨hz20, hw1⟩ := hw
  refine j_callSWi X (pc' := 223) (cells' := cz + 6) (slots' := 8 * (cz) + 29) (As := [.ref v0]) (rest := []) (c_L_sequences l G A hl0 kd hkd v0 μ _ hw1) (gk_L_sequences wt_3_148) hd_L_sequences (rmL_fit (k1 := 6) (k := 80) (by omega) (by decide)) rfl rfl (Nat.le_of_ble_eq_true rfl) dL_act_220 rfl ⟨by show _ ≤ 3000; omega, by show _ ≤ 24000; omega⟩ rfl rfl (fun r21 μ24 hw2 => ?_)
  refine j_widen (k1 := cz + 6) (n1 := 8 * (cz + 6)) (by omega) (by omega) ?_
  obtain ⟨hz25, hw3⟩ := hw2
  exact j_iret X ⟨_, rfl, hw3⟩ (by omega) (by omega) dL_act_223
def wb_L_act_215 (kd : Nat → Nat) (post : Int32 → Mm → Prop)  (s0 : Int32) (s1 : Int32) (s2 : Nat) (μ : Mm) (cz : Nat) : Prop := cz + 2 ≤ 3000 ∧ wp_L_parts s2 s1 s0 μ (fun r104 μ107 => cz + 2 ≤ 3000 ∧ post r104 μ107)
set_option maxHeartbeats 4000000 in
set_option maxRecDepth 100000 in
theorem tb_L_act_215 {p : Program} {l : Launch} {e : Env} {s : State} {m : MethodId} {args : Array Value} {below : List Frame} {meth : Method} {c : Code} {G : gG} {A : Nat → Prop} {kd : Nat → Nat} {post : Int32 → Mm → Prop} (X : Cx p l s m args meth c cL_act 11 (some .int) RL G A) (hl0 : l.stackTraces = false) (hkd : G.2.2 = kd) : ∀ (s0 : Int32) (s1 : Int32) (s2 : Nat) (μ : Mm) (cz : Nat), wb_L_act_215 kd post s0 s1 s2 μ cz → J p l e (rmL (80) 3000 24000) s m args below meth c 11 G A (MQ below (QG G A (pI post)) args s 3000 24000 A) cz (8 * cz) 215 [] [.int s0, .int s1, .ref s2] μ := by
  intro s0 s1 s2 μ cz hw
  unfold wb_L_act_215 at hw
  obtain ⟨hz103, hw1⟩ := hw
  refine j_callSWi X (pc' := 218) (cells' := cz + 2) (slots' := 8 * (cz) + 12) (As := [.ref s2, .int s1, .int s0]) (rest := []) (c_L_parts l G A hl0 s2 s1 s0 μ _ hw1) (gk_L_parts wt_2_145) hd_L_parts (rmL_fit (k1 := 3) (k := 80) (by omega) (by decide)) rfl rfl (Nat.le_of_ble_eq_true rfl) dL_act_215 rfl ⟨by show _ ≤ 3000; omega, by show _ ≤ 24000; omega⟩ rfl rfl (fun r104 μ107 hw2 => ?_)
  refine j_widen (k1 := cz + 2) (n1 := 8 * (cz + 2)) (by omega) (by omega) ?_
  obtain ⟨hz108, hw3⟩ := hw2
  exact j_iret X ⟨_, rfl, hw3⟩ (by omega) (by omega) dL_act_218
def wb_L_act_198 (kd : Nat → Nat) (post : Int32 → Mm → Prop)  (v0 : Nat) (v2 : Int32) (v4 : Int32) (μ : Mm) (cz : Nat) : Prop := (¬ ((v2 / (16 : Int32)) - (v2 / (16 : Int32)) / (2 : Int32) * (2 : Int32)) = 0 → (wb_L_act_215 kd post (0 : Int32) v4 v0 μ cz)) ∧ (((v2 / (16 : Int32)) - (v2 / (16 : Int32)) / (2 : Int32) * (2 : Int32)) = 0 → (wb_L_act_215 kd post (1 : Int32) v4 v0 μ cz))
set_option maxHeartbeats 4000000 in
set_option maxRecDepth 100000 in
theorem tb_L_act_198 {p : Program} {l : Launch} {e : Env} {s : State} {m : MethodId} {args : Array Value} {below : List Frame} {meth : Method} {c : Code} {G : gG} {A : Nat → Prop} {kd : Nat → Nat} {post : Int32 → Mm → Prop} (X : Cx p l s m args meth c cL_act 11 (some .int) RL G A) (hl0 : l.stackTraces = false) (hkd : G.2.2 = kd) : ∀ (v0 : Nat) (v2 : Int32) (v4 : Int32) (μ : Mm) (cz : Nat), wb_L_act_198 kd post v0 v2 v4 μ cz → J p l e (rmL (80) 3000 24000) s m args below meth c 11 G A (MQ below (QG G A (pI post)) args s 3000 24000 A) cz (8 * cz) 198 [(0, .ref v0), (2, .int v2), (4, .int v4)] [] μ := by
  intro v0 v2 v4 μ cz hw
  unfold wb_L_act_198 at hw
  refine j_aload_n X (pc' := 199) (kk := 0) (i := 0) 0 rfl rfl dL_act_198 rfl ?_
  refine j_iload X (pc' := 201) (i := 4) 2 rfl dL_act_199 rfl ?_
  refine j_iload_n X (pc' := 202) (kk := 2) (i := 2) 1 rfl rfl dL_act_201 rfl ?_
  refine j_bipush X (pc' := 204) (v := 16) (by decide) dL_act_202 rfl ?_
  refine j_idiv X (pc' := 205) (by decide) dL_act_204 rfl ?_
  refine j_iconst X (pc' := 206) (v := 2) (by decide) dL_act_205 rfl ?_
  refine j_irem X (pc' := 207) (by decide) dL_act_206 rfl ?_
  refine j_if_ne X (pc' := 210) (tgt := 214) dL_act_207 rfl (by decide) (fun c19 => ?_) (fun c19 => ?_)
  · have hw1 := hw.1 c19
    refine j_iconst X (pc' := 215) (v := 0) (by decide) dL_act_214 rfl ?_
    refine j_loc [] rfl ?_
    exact tb_L_act_215 X hl0 hkd _ _ _ _ _ hw1
  · have hw2 := hw.2 c19
    refine j_iconst X (pc' := 211) (v := 1) (by decide) dL_act_210 rfl ?_
    refine j_goto X (tgt := 215) dL_act_211 (by decide) ?_
    refine j_loc [] rfl ?_
    exact tb_L_act_215 X hl0 hkd _ _ _ _ _ hw2
def wb_L_act_172 (kd : Nat → Nat) (post : Int32 → Mm → Prop)  (v0 : Nat) (v2 : Int32) (v4 : Int32) (μ : Mm) (cz : Nat) : Prop := cz + 7 ≤ 3000 ∧ wp_L_lists kd v0 v4 ((v2 / (16 : Int32)) - (v2 / (16 : Int32)) / (3 : Int32) * (3 : Int32)) (((v2 / (16 : Int32)) - (v2 / (16 : Int32)) / (3 : Int32) * (3 : Int32)) + ((v2 / (48 : Int32)) - (v2 / (48 : Int32)) / (4 : Int32) * (4 : Int32))) μ (fun r14 μ17 => cz + 7 ≤ 3000 ∧ post r14 μ17)
set_option maxHeartbeats 4000000 in
set_option maxRecDepth 100000 in
theorem tb_L_act_172 {p : Program} {l : Launch} {e : Env} {s : State} {m : MethodId} {args : Array Value} {below : List Frame} {meth : Method} {c : Code} {G : gG} {A : Nat → Prop} {kd : Nat → Nat} {post : Int32 → Mm → Prop} (X : Cx p l s m args meth c cL_act 11 (some .int) RL G A) (hl0 : l.stackTraces = false) (hkd : G.2.2 = kd) : ∀ (v0 : Nat) (v2 : Int32) (v4 : Int32) (μ : Mm) (cz : Nat), wb_L_act_172 kd post v0 v2 v4 μ cz → J p l e (rmL (80) 3000 24000) s m args below meth c 11 G A (MQ below (QG G A (pI post)) args s 3000 24000 A) cz (8 * cz) 172 [(0, .ref v0), (2, .int v2), (4, .int v4)] [] μ := by
  intro v0 v2 v4 μ cz hw
  unfold wb_L_act_172 at hw
  refine j_aload_n X (pc' := 173) (kk := 0) (i := 0) 0 rfl rfl dL_act_172 rfl ?_
  refine j_iload X (pc' := 175) (i := 4) 2 rfl dL_act_173 rfl ?_
  refine j_iload_n X (pc' := 176) (kk := 2) (i := 2) 1 rfl rfl dL_act_175 rfl ?_
  refine j_bipush X (pc' := 178) (v := 16) (by decide) dL_act_176 rfl ?_
  refine j_idiv X (pc' := 179) (by decide) dL_act_178 rfl ?_
  refine j_iconst X (pc' := 180) (v := 3) (by decide) dL_act_179 rfl ?_
  refine j_irem X (pc' := 181) (by decide) dL_act_180 rfl ?_
  refine j_iload_n X (pc' := 182) (kk := 2) (i := 2) 1 rfl rfl dL_act_181 rfl ?_
  refine j_bipush X (pc' := 184) (v := 16) (by decide) dL_act_182 rfl ?_
  refine j_idiv X (pc' := 185) (by decide) dL_act_184 rfl ?_
  refine j_iconst X (pc' := 186) (v := 3) (by decide) dL_act_185 rfl ?_
  refine j_irem X (pc' := 187) (by decide) dL_act_186 rfl ?_
  refine j_iload_n X (pc' := 188) (kk := 2) (i := 2) 1 rfl rfl dL_act_187 rfl ?_
  refine j_bipush X (pc' := 190) (v := 48) (by decide) dL_act_188 rfl ?_
  refine j_idiv X (pc' := 191) (by decide) dL_act_190 rfl ?_
  refine j_iconst X (pc' := 192) (v := 4) (by decide) dL_act_191 rfl ?_
  refine j_irem X (pc' := 193) (by decide) dL_act_192 rfl ?_
  refine j_iadd X (pc' := 194) dL_act_193 rfl ?_
  obtain ⟨hz13, hw1⟩ := hw
  refine j_callSWi X (pc' := 197) (cells' := cz + 7) (slots' := 8 * (cz) + 30) (As := [.ref v0, .int v4, .int ((v2 / (16 : Int32)) - (v2 / (16 : Int32)) / (3 : Int32) * (3 : Int32)), .int (((v2 / (16 : Int32)) - (v2 / (16 : Int32)) / (3 : Int32) * (3 : Int32)) + ((v2 / (48 : Int32)) - (v2 / (48 : Int32)) / (4 : Int32) * (4 : Int32)))]) (rest := []) (c_L_lists l G A hl0 kd hkd v0 v4 ((v2 / (16 : Int32)) - (v2 / (16 : Int32)) / (3 : Int32) * (3 : Int32)) (((v2 / (16 : Int32)) - (v2 / (16 : Int32)) / (3 : Int32) * (3 : Int32)) + ((v2 / (48 : Int32)) - (v2 / (48 : Int32)) / (4 : Int32) * (4 : Int32))) μ _ hw1) (gk_L_lists wt_2_113) hd_L_lists (rmL_fit (k1 := 5) (k := 80) (by omega) (by decide)) rfl rfl (Nat.le_of_ble_eq_true rfl) dL_act_194 rfl ⟨by show _ ≤ 3000; omega, by show _ ≤ 24000; omega⟩ rfl rfl (fun r14 μ17 hw2 => ?_)
  refine j_widen (k1 := cz + 7) (n1 := 8 * (cz + 7)) (by omega) (by omega) ?_
  obtain ⟨hz18, hw3⟩ := hw2
  exact j_iret X ⟨_, rfl, hw3⟩ (by omega) (by omega) dL_act_197
def wb_L_act_166 (kd : Nat → Nat) (post : Int32 → Mm → Prop)  (s0 : Int32) (s1 : Int32) (s2 : Int32) (s3 : Int32) (s4 : Nat) (μ : Mm) (cz : Nat) : Prop := ¬ s0 = 0 ∧ cz + 6 ≤ 3000 ∧ wp_L_numbers kd s4 s3 (s2 + (s1 - s1 / s0 * s0)) μ (fun r98 μ101 => cz + 6 ≤ 3000 ∧ post r98 μ101)
set_option maxHeartbeats 4000000 in
set_option maxRecDepth 100000 in
theorem tb_L_act_166 {p : Program} {l : Launch} {e : Env} {s : State} {m : MethodId} {args : Array Value} {below : List Frame} {meth : Method} {c : Code} {G : gG} {A : Nat → Prop} {kd : Nat → Nat} {post : Int32 → Mm → Prop} (X : Cx p l s m args meth c cL_act 11 (some .int) RL G A) (hl0 : l.stackTraces = false) (hkd : G.2.2 = kd) : ∀ (s0 : Int32) (s1 : Int32) (s2 : Int32) (s3 : Int32) (s4 : Nat) (μ : Mm) (cz : Nat), wb_L_act_166 kd post s0 s1 s2 s3 s4 μ cz → J p l e (rmL (80) 3000 24000) s m args below meth c 11 G A (MQ below (QG G A (pI post)) args s 3000 24000 A) cz (8 * cz) 166 [] [.int s0, .int s1, .int s2, .int s3, .ref s4] μ := by
  intro s0 s1 s2 s3 s4 μ cz hw
  unfold wb_L_act_166 at hw
  obtain ⟨h96, hw1⟩ := hw
  refine j_irem X (pc' := 167) h96 dL_act_166 rfl ?_
  refine j_iadd X (pc' := 168) dL_act_167 rfl ?_
  obtain ⟨hz97, hw2⟩ := hw1
  refine j_callSWi X (pc' := 171) (cells' := cz + 6) (slots' := 8 * (cz) + 23) (As := [.ref s4, .int s3, .int (s2 + (s1 - s1 / s0 * s0))]) (rest := []) (c_L_numbers l G A hl0 kd hkd s4 s3 (s2 + (s1 - s1 / s0 * s0)) μ _ hw2) (gk_L_numbers wt_1_144) hd_L_numbers (rmL_fit (k1 := 5) (k := 80) (by omega) (by decide)) rfl rfl (Nat.le_of_ble_eq_true rfl) dL_act_168 rfl ⟨by show _ ≤ 3000; omega, by show _ ≤ 24000; omega⟩ rfl rfl (fun r98 μ101 hw3 => ?_)
  refine j_widen (k1 := cz + 6) (n1 := 8 * (cz + 6)) (by omega) (by omega) ?_
  obtain ⟨hz102, hw4⟩ := hw3
  exact j_iret X ⟨_, rfl, hw4⟩ (by omega) (by omega) dL_act_171
def wb_L_act_136 (kd : Nat → Nat) (post : Int32 → Mm → Prop)  (v0 : Nat) (v2 : Int32) (μ : Mm) (cz : Nat) : Prop := (¬ (v2 - v2 / (2 : Int32) * (2 : Int32)) = 0 → (wb_L_act_166 kd post (40 : Int32) (v2 / (9 : Int32)) ((v2 - v2 / (9 : Int32) * (9 : Int32)) - (4 : Int32)) ((v2 - v2 / (9 : Int32) * (9 : Int32)) - (4 : Int32)) v0 μ cz)) ∧ ((v2 - v2 / (2 : Int32) * (2 : Int32)) = 0 → (wb_L_act_166 kd post (6 : Int32) (v2 / (9 : Int32)) ((v2 - v2 / (9 : Int32) * (9 : Int32)) - (4 : Int32)) ((v2 - v2 / (9 : Int32) * (9 : Int32)) - (4 : Int32)) v0 μ cz))
set_option maxHeartbeats 4000000 in
set_option maxRecDepth 100000 in
theorem tb_L_act_136 {p : Program} {l : Launch} {e : Env} {s : State} {m : MethodId} {args : Array Value} {below : List Frame} {meth : Method} {c : Code} {G : gG} {A : Nat → Prop} {kd : Nat → Nat} {post : Int32 → Mm → Prop} (X : Cx p l s m args meth c cL_act 11 (some .int) RL G A) (hl0 : l.stackTraces = false) (hkd : G.2.2 = kd) : ∀ (v0 : Nat) (v2 : Int32) (μ : Mm) (cz : Nat), wb_L_act_136 kd post v0 v2 μ cz → J p l e (rmL (80) 3000 24000) s m args below meth c 11 G A (MQ below (QG G A (pI post)) args s 3000 24000 A) cz (8 * cz) 136 [(0, .ref v0), (2, .int v2)] [] μ := by
  intro v0 v2 μ cz hw
  unfold wb_L_act_136 at hw
  refine j_aload_n X (pc' := 137) (kk := 0) (i := 0) 0 rfl rfl dL_act_136 rfl ?_
  refine j_iload_n X (pc' := 138) (kk := 2) (i := 2) 1 rfl rfl dL_act_137 rfl ?_
  refine j_bipush X (pc' := 140) (v := 9) (by decide) dL_act_138 rfl ?_
  refine j_irem X (pc' := 141) (by decide) dL_act_140 rfl ?_
  refine j_iconst X (pc' := 142) (v := 4) (by decide) dL_act_141 rfl ?_
  refine j_isub X (pc' := 143) dL_act_142 rfl ?_
  refine j_iload_n X (pc' := 144) (kk := 2) (i := 2) 1 rfl rfl dL_act_143 rfl ?_
  refine j_bipush X (pc' := 146) (v := 9) (by decide) dL_act_144 rfl ?_
  refine j_irem X (pc' := 147) (by decide) dL_act_146 rfl ?_
  refine j_iconst X (pc' := 148) (v := 4) (by decide) dL_act_147 rfl ?_
  refine j_isub X (pc' := 149) dL_act_148 rfl ?_
  refine j_iload_n X (pc' := 150) (kk := 2) (i := 2) 1 rfl rfl dL_act_149 rfl ?_
  refine j_bipush X (pc' := 152) (v := 9) (by decide) dL_act_150 rfl ?_
  refine j_idiv X (pc' := 153) (by decide) dL_act_152 rfl ?_
  refine j_iload_n X (pc' := 154) (kk := 2) (i := 2) 1 rfl rfl dL_act_153 rfl ?_
  refine j_iconst X (pc' := 155) (v := 2) (by decide) dL_act_154 rfl ?_
  refine j_irem X (pc' := 156) (by decide) dL_act_155 rfl ?_
  refine j_if_ne X (pc' := 159) (tgt := 164) dL_act_156 rfl (by decide) (fun c12 => ?_) (fun c12 => ?_)
  · have hw1 := hw.1 c12
    refine j_bipush X (pc' := 166) (v := 40) (by decide) dL_act_164 rfl ?_
    refine j_loc [] rfl ?_
    exact tb_L_act_166 X hl0 hkd _ _ _ _ _ _ _ hw1
  · have hw2 := hw.2 c12
    refine j_bipush X (pc' := 161) (v := 6) (by decide) dL_act_159 rfl ?_
    refine j_goto X (tgt := 166) dL_act_161 (by decide) ?_
    refine j_loc [] rfl ?_
    exact tb_L_act_166 X hl0 hkd _ _ _ _ _ _ _ hw2
def wb_L_act_21 (kd : Nat → Nat) (post : Int32 → Mm → Prop)  (v0 : Nat) (v1 : Int32) (v2 : Int32) (v3 : Int32) (s0 : Int32) (μ : Mm) (cz : Nat) : Prop := ∀ xs8, xs8 = v1 - v1 / (32 : Int32) * (32 : Int32) → (xs8.toInt < 0 ∨ 23 < xs8.toInt → wb_L_act_370 kd post v0 v2 v3 μ cz) ∧ (nI 0 ≤ xs8 ∧ xs8 ≤ nI 2 → wb_L_act_136 kd post v0 v2 μ cz) ∧ (nI 3 ≤ xs8 ∧ xs8 ≤ nI 4 → wb_L_act_172 kd post v0 v2 s0 μ cz) ∧ (nI 5 ≤ xs8 ∧ xs8 ≤ nI 9 → wb_L_act_198 kd post v0 v2 s0 μ cz) ∧ (nI 10 ≤ xs8 ∧ xs8 ≤ nI 11 → wb_L_act_219 kd post v0 μ cz) ∧ (nI 12 ≤ xs8 ∧ xs8 ≤ nI 12 → wb_L_act_224 kd post v0 μ cz) ∧ (nI 13 ≤ xs8 ∧ xs8 ≤ nI 14 → wb_L_act_229 kd post v0 v2 v3 μ cz) ∧ (nI 15 ≤ xs8 ∧ xs8 ≤ nI 18 → wb_L_act_263 kd post v0 v2 μ cz) ∧ (nI 19 ≤ xs8 ∧ xs8 ≤ nI 19 → wb_L_act_290 kd post v0 μ cz) ∧ (nI 20 ≤ xs8 ∧ xs8 ≤ nI 20 → wb_L_act_295 kd post v0 s0 μ cz) ∧ (nI 21 ≤ xs8 ∧ xs8 ≤ nI 21 → wb_L_act_302 kd post v0 v2 μ cz) ∧ (nI 22 ≤ xs8 ∧ xs8 ≤ nI 22 → wb_L_act_324 kd post v0 v2 μ cz) ∧ (nI 23 ≤ xs8 ∧ xs8 ≤ nI 23 → wb_L_act_357 kd post v0 v2 s0 μ cz)
set_option maxHeartbeats 4000000 in
set_option maxRecDepth 100000 in
theorem tb_L_act_21 {p : Program} {l : Launch} {e : Env} {s : State} {m : MethodId} {args : Array Value} {below : List Frame} {meth : Method} {c : Code} {G : gG} {A : Nat → Prop} {kd : Nat → Nat} {post : Int32 → Mm → Prop} (X : Cx p l s m args meth c cL_act 11 (some .int) RL G A) (hl0 : l.stackTraces = false) (hkd : G.2.2 = kd) : ∀ (v0 : Nat) (v1 : Int32) (v2 : Int32) (v3 : Int32) (s0 : Int32) (μ : Mm) (cz : Nat), wb_L_act_21 kd post v0 v1 v2 v3 s0 μ cz → J p l e (rmL (80) 3000 24000) s m args below meth c 11 G A (MQ below (QG G A (pI post)) args s 3000 24000 A) cz (8 * cz) 21 [(0, .ref v0), (1, .int v1), (2, .int v2), (3, .int v3)] [.int s0] μ := by
  intro v0 v1 v2 v3 s0 μ cz hw
  unfold wb_L_act_21 at hw
  refine j_istore X (pc' := 23) (i := 4) (loc' := [(4, .int s0), (0, .ref v0), (1, .int v1), (2, .int v2), (3, .int v3)]) dL_act_21 rfl (by decide) rfl ?_
  refine j_iload_n X (pc' := 24) (kk := 1) (i := 1) 2 rfl rfl dL_act_23 rfl ?_
  refine j_bipush X (pc' := 26) (v := 32) (by decide) dL_act_24 rfl ?_
  refine j_irem X (pc' := 27) (by decide) dL_act_26 rfl ?_
  have hw1 := hw _ rfl
  generalize v1 - v1 / (32 : Int32) * (32 : Int32) = xs8 at hw1 ⊢
  by_cases hq : xs8.toInt < 0 ∨ 23 < xs8.toInt
  · have hw2 := hw1.1 hq
    refine j_tswOut X (tgt := 370) dL_act_27 hq (by decide) ?_
    refine j_loc [1, 3, 4] rfl ?_
    exact tb_L_act_370 X hl0 hkd _ _ _ _ _ hw2
  · obtain ⟨j, hj, ej⟩ := sw24 (fun h => hq (Or.inl h)) (fun h => hq (Or.inr h))
    subst ej
    match j, hj with
    | 0, _ =>
      have hw3 := hw1.2.1 (by decide)
      refine j_tswIn X (tgt := 136) dL_act_27 (by decide) (by decide) rfl (by decide) ?_
      refine j_loc [1, 3] rfl ?_
      exact tb_L_act_136 X hl0 hkd _ _ _ _ hw3
    | 1, _ =>
      have hw4 := hw1.2.1 (by decide)
      refine j_tswIn X (tgt := 136) dL_act_27 (by decide) (by decide) rfl (by decide) ?_
      refine j_loc [1, 3] rfl ?_
      exact tb_L_act_136 X hl0 hkd _ _ _ _ hw4
    | 2, _ =>
      have hw5 := hw1.2.1 (by decide)
      refine j_tswIn X (tgt := 136) dL_act_27 (by decide) (by decide) rfl (by decide) ?_
      refine j_loc [1, 3] rfl ?_
      exact tb_L_act_136 X hl0 hkd _ _ _ _ hw5
    | 3, _ =>
      have hw6 := hw1.2.2.1 (by decide)
      refine j_tswIn X (tgt := 172) dL_act_27 (by decide) (by decide) rfl (by decide) ?_
      refine j_loc [1, 3, 0] rfl ?_
      exact tb_L_act_172 X hl0 hkd _ _ _ _ _ hw6
    | 4, _ =>
      have hw7 := hw1.2.2.1 (by decide)
      refine j_tswIn X (tgt := 172) dL_act_27 (by decide) (by decide) rfl (by decide) ?_
      refine j_loc [1, 3, 0] rfl ?_
      exact tb_L_act_172 X hl0 hkd _ _ _ _ _ hw7
    | 5, _ =>
      have hw8 := hw1.2.2.2.1 (by decide)
      refine j_tswIn X (tgt := 198) dL_act_27 (by decide) (by decide) rfl (by decide) ?_
      refine j_loc [1, 3, 0] rfl ?_
      exact tb_L_act_198 X hl0 hkd _ _ _ _ _ hw8
    | 6, _ =>
      have hw9 := hw1.2.2.2.1 (by decide)
      refine j_tswIn X (tgt := 198) dL_act_27 (by decide) (by decide) rfl (by decide) ?_
      refine j_loc [1, 3, 0] rfl ?_
      exact tb_L_act_198 X hl0 hkd _ _ _ _ _ hw9
    | 7, _ =>
      have hw10 := hw1.2.2.2.1 (by decide)
      refine j_tswIn X (tgt := 198) dL_act_27 (by decide) (by decide) rfl (by decide) ?_
      refine j_loc [1, 3, 0] rfl ?_
      exact tb_L_act_198 X hl0 hkd _ _ _ _ _ hw10
    | 8, _ =>
      have hw11 := hw1.2.2.2.1 (by decide)
      refine j_tswIn X (tgt := 198) dL_act_27 (by decide) (by decide) rfl (by decide) ?_
      refine j_loc [1, 3, 0] rfl ?_
      exact tb_L_act_198 X hl0 hkd _ _ _ _ _ hw11
    | 9, _ =>
      have hw12 := hw1.2.2.2.1 (by decide)
      refine j_tswIn X (tgt := 198) dL_act_27 (by decide) (by decide) rfl (by decide) ?_
      refine j_loc [1, 3, 0] rfl ?_
      exact tb_L_act_198 X hl0 hkd _ _ _ _ _ hw12
    | 10, _ =>
      have hw13 := hw1.2.2.2.2.1 (by decide)
      refine j_tswIn X (tgt := 219) dL_act_27 (by decide) (by decide) rfl (by decide) ?_
      refine j_loc [1] rfl ?_
      exact tb_L_act_219 X hl0 hkd _ _ _ hw13
    | 11, _ =>
      have hw14 := hw1.2.2.2.2.1 (by decide)
      refine j_tswIn X (tgt := 219) dL_act_27 (by decide) (by decide) rfl (by decide) ?_
      refine j_loc [1] rfl ?_
      exact tb_L_act_219 X hl0 hkd _ _ _ hw14
    | 12, _ =>
      have hw15 := hw1.2.2.2.2.2.1 (by decide)
      refine j_tswIn X (tgt := 224) dL_act_27 (by decide) (by decide) rfl (by decide) ?_
      refine j_loc [1] rfl ?_
      exact tb_L_act_224 X hl0 hkd _ _ _ hw15
    | 13, _ =>
      have hw16 := hw1.2.2.2.2.2.2.1 (by decide)
      refine j_tswIn X (tgt := 229) dL_act_27 (by decide) (by decide) rfl (by decide) ?_
      refine j_loc [1, 3, 4] rfl ?_
      exact tb_L_act_229 X hl0 hkd _ _ _ _ _ hw16
    | 14, _ =>
      have hw17 := hw1.2.2.2.2.2.2.1 (by decide)
      refine j_tswIn X (tgt := 229) dL_act_27 (by decide) (by decide) rfl (by decide) ?_
      refine j_loc [1, 3, 4] rfl ?_
      exact tb_L_act_229 X hl0 hkd _ _ _ _ _ hw17
    | 15, _ =>
      have hw18 := hw1.2.2.2.2.2.2.2.1 (by decide)
      refine j_tswIn X (tgt := 263) dL_act_27 (by decide) (by decide) rfl (by decide) ?_
      refine j_loc [1, 3] rfl ?_
      exact tb_L_act_263 X hl0 hkd _ _ _ _ hw18
    | 16, _ =>
      have hw19 := hw1.2.2.2.2.2.2.2.1 (by decide)
      refine j_tswIn X (tgt := 263) dL_act_27 (by decide) (by decide) rfl (by decide) ?_
      refine j_loc [1, 3] rfl ?_
      exact tb_L_act_263 X hl0 hkd _ _ _ _ hw19
    | 17, _ =>
      have hw20 := hw1.2.2.2.2.2.2.2.1 (by decide)
      refine j_tswIn X (tgt := 263) dL_act_27 (by decide) (by decide) rfl (by decide) ?_
      refine j_loc [1, 3] rfl ?_
      exact tb_L_act_263 X hl0 hkd _ _ _ _ hw20
    | 18, _ =>
      have hw21 := hw1.2.2.2.2.2.2.2.1 (by decide)
      refine j_tswIn X (tgt := 263) dL_act_27 (by decide) (by decide) rfl (by decide) ?_
      refine j_loc [1, 3] rfl ?_
      exact tb_L_act_263 X hl0 hkd _ _ _ _ hw21
    | 19, _ =>
      have hw22 := hw1.2.2.2.2.2.2.2.2.1 (by decide)
      refine j_tswIn X (tgt := 290) dL_act_27 (by decide) (by decide) rfl (by decide) ?_
      refine j_loc [1] rfl ?_
      exact tb_L_act_290 X hl0 hkd _ _ _ hw22
    | 20, _ =>
      have hw23 := hw1.2.2.2.2.2.2.2.2.2.1 (by decide)
      refine j_tswIn X (tgt := 295) dL_act_27 (by decide) (by decide) rfl (by decide) ?_
      refine j_loc [1, 0] rfl ?_
      exact tb_L_act_295 X hl0 hkd _ _ _ _ hw23
    | 21, _ =>
      have hw24 := hw1.2.2.2.2.2.2.2.2.2.2.1 (by decide)
      refine j_tswIn X (tgt := 302) dL_act_27 (by decide) (by decide) rfl (by decide) ?_
      refine j_loc [1, 3] rfl ?_
      exact tb_L_act_302 X hl0 hkd _ _ _ _ hw24
    | 22, _ =>
      have hw25 := hw1.2.2.2.2.2.2.2.2.2.2.2.1 (by decide)
      refine j_tswIn X (tgt := 324) dL_act_27 (by decide) (by decide) rfl (by decide) ?_
      refine j_loc [1, 3] rfl ?_
      exact tb_L_act_324 X hl0 hkd _ _ _ _ hw25
    | 23, _ =>
      have hw26 := hw1.2.2.2.2.2.2.2.2.2.2.2.2 (by decide)
      refine j_tswIn X (tgt := 357) dL_act_27 (by decide) (by decide) rfl (by decide) ?_
      refine j_loc [1, 3, 0] rfl ?_
      exact tb_L_act_357 X hl0 hkd _ _ _ _ _ hw26
    | j + 24, h24 => exact absurd h24 (by omega)
def wp_L_act (kd : Nat → Nat) (x1 : Nat) (x2 : Int32) (μ : Mm) (post : Int32 → Mm → Prop) : Prop := 0 ≤ 3000 ∧ (∃ f4, μ x1 = some (.inl (5, f4))) ∧ wp_X6_types x1 μ (fun r2 μ5 => (¬ r2 = 0 → (¬ r2 = 0 ∧ wb_L_act_21 kd post x1 x2 (x2 / (32 : Int32)) r2 ((x2 / (32 : Int32)) - (x2 / (32 : Int32)) / r2 * r2) μ5 0)) ∧ (r2 = 0 → (wb_L_act_21 kd post x1 x2 (x2 / (32 : Int32)) r2 (0 : Int32) μ5 0)))
set_option maxHeartbeats 4000000 in
set_option maxRecDepth 100000 in
theorem c_L_act (l : Launch) (G : gG) (A : Nat → Prop) (hl0 : l.stackTraces = false) (kd : Nat → Nat) (hkd : G.2.2 = kd) (x1 : Nat) (x2 : Int32) (μ : Mm) (post : Int32 → Mm → Prop) (h : wp_L_act kd x1 x2 μ post) : Met l yL_act (.code yL_act cL_act 11 (some .int) :: wsA) (rmL (80) 3000 24000) (PcG G A μ [.ref x1, .int x2]) (QG G A (pI post)) 3000 24000 A := by
  refine met_J (loc := [(0, .ref x1), (1, .int x2)]) (by decide +kernel) (Nat.le_of_ble_eq_true rfl) rfl ?_
  intro p e s m args below meth c X hin
  have X : Cx p l s m args meth c cL_act 11 (some .int) RL G A := X
  have hw := h
  unfold wp_L_act at hw
  refine j_iload_n X (pc' := 1) (kk := 1) (i := 1) 1 rfl rfl dL_act_0 rfl ?_
  refine j_bipush X (pc' := 3) (v := 32) (by decide) dL_act_1 rfl ?_
  refine j_idiv X (pc' := 4) (by decide) dL_act_3 rfl ?_
  refine j_istore_n X (pc' := 5) (kk := 2) (i := 2) (loc' := [(2, .int (x2 / (32 : Int32))), (0, .ref x1), (1, .int x2)]) dL_act_4 rfl rfl (by decide) rfl ?_
  refine j_aload_n X (pc' := 6) (kk := 0) (i := 0) 1 rfl rfl dL_act_5 rfl ?_
  obtain ⟨hz1, hw1⟩ := hw
  obtain ⟨⟨f4, hm3⟩, hw2⟩ := hw1
  refine j_callVi X (pc' := 9) (cells' := 0 + 0) (slots' := 8 * (0) + 0) (As := []) (rest := []) (c_X6_types l G A x1 μ _ hw2) (gk_X6_types wt_1_128) hd_X6_types (rmL_fit (k1 := 1) (k := 80) (by omega) (by decide)) hm3 rfl rfl rfl (Nat.le_of_ble_eq_true rfl) dL_act_6 rfl ⟨by show _ ≤ 3000; omega, by show _ ≤ 24000; omega⟩ rfl rfl (fun r2 μ5 hw3 => ?_)
  refine j_widen (k1 := 0) (n1 := 8 * (0)) (by omega) (by omega) ?_
  refine j_istore_n X (pc' := 10) (kk := 3) (i := 3) (loc' := [(3, .int r2), (2, .int (x2 / (32 : Int32))), (0, .ref x1), (1, .int x2)]) dL_act_9 rfl rfl (by decide) rfl ?_
  refine j_iload_n X (pc' := 11) (kk := 3) (i := 3) 0 rfl rfl dL_act_10 rfl ?_
  refine j_if_ne X (pc' := 14) (tgt := 18) dL_act_11 rfl (by decide) (fun c6 => ?_) (fun c6 => ?_)
  · have hw4 := hw3.1 c6
    refine j_iload_n X (pc' := 19) (kk := 2) (i := 2) 1 rfl rfl dL_act_18 rfl ?_
    refine j_iload_n X (pc' := 20) (kk := 3) (i := 3) 0 rfl rfl dL_act_19 rfl ?_
    obtain ⟨h7, hw5⟩ := hw4
    refine j_irem X (pc' := 21) h7 dL_act_20 rfl ?_
    refine j_loc [2, 3, 1, 0] rfl ?_
    exact tb_L_act_21 X hl0 hkd _ _ _ _ _ _ _ hw5
  · have hw6 := hw3.2 c6
    refine j_iconst X (pc' := 15) (v := 0) (by decide) dL_act_14 rfl ?_
    refine j_goto X (tgt := 21) dL_act_15 (by decide) ?_
    refine j_loc [2, 3, 1, 0] rfl ?_
    exact tb_L_act_21 X hl0 hkd _ _ _ _ _ _ _ hw6
