theorem d_O_digest_86 : decode b_O_digest 86 = .ok (.iload_n 3, 1) := by decide +kernel
theorem d_O_digest_87 : decode b_O_digest 87 = .ok (.bipush 40, 2) := by decide +kernel
theorem d_O_digest_89 : decode b_O_digest 89 = .ok (.if_icmp .ge 22, 3) := by decide +kernel
theorem d_O_digest_92 : decode b_O_digest 92 = .ok (.ldc2_w 211, 3) := by decide +kernel
theorem d_O_digest_95 : decode b_O_digest 95 = .ok (.lload_n 1, 1) := by decide +kernel
theorem d_O_digest_96 : decode b_O_digest 96 = .ok (.lmul, 1) := by decide +kernel
theorem d_O_digest_97 : decode b_O_digest 97 = .ok (.aload_n 0, 1) := by decide +kernel
theorem d_O_digest_98 : decode b_O_digest 98 = .ok (.iload_n 3, 1) := by decide +kernel
theorem d_O_digest_99 : decode b_O_digest 99 = .ok (.invokevirtual 222, 3) := by decide +kernel
theorem d_O_digest_102 : decode b_O_digest 102 = .ok (.i2l, 1) := by decide +kernel
theorem d_O_digest_103 : decode b_O_digest 103 = .ok (.ladd, 1) := by decide +kernel
theorem d_O_digest_104 : decode b_O_digest 104 = .ok (.lstore_n 1, 1) := by decide +kernel
theorem d_O_digest_105 : decode b_O_digest 105 = .ok (.iinc 3 1, 3) := by decide +kernel
theorem d_O_digest_108 : decode b_O_digest 108 = .ok (.goto (-22), 3) := by decide +kernel
theorem d_O_digest_111 : decode b_O_digest 111 = .ok (.iconst 0, 1) := by decide +kernel
theorem d_O_digest_112 : decode b_O_digest 112 = .ok (.istore_n 3, 1) := by decide +kernel
theorem d_O_digest_113 : decode b_O_digest 113 = .ok (.iload_n 3, 1) := by decide +kernel
theorem d_O_digest_114 : decode b_O_digest 114 = .ok (.bipush 7, 2) := by decide +kernel
theorem d_O_digest_116 : decode b_O_digest 116 = .ok (.if_icmp .ge 39, 3) := by decide +kernel
theorem d_O_digest_119 : decode b_O_digest 119 = .ok (.iconst 0, 1) := by decide +kernel
theorem d_O_digest_120 : decode b_O_digest 120 = .ok (.istore 4, 2) := by decide +kernel
theorem d_O_digest_122 : decode b_O_digest 122 = .ok (.iload 4, 2) := by decide +kernel
theorem d_O_digest_124 : decode b_O_digest 124 = .ok (.iconst 2, 1) := by decide +kernel
theorem d_O_digest_125 : decode b_O_digest 125 = .ok (.if_icmp .gt 24, 3) := by decide +kernel
theorem d_O_digest_128 : decode b_O_digest 128 = .ok (.ldc2_w 211, 3) := by decide +kernel
theorem d_O_digest_131 : decode b_O_digest 131 = .ok (.lload_n 1, 1) := by decide +kernel
theorem d_O_digest_132 : decode b_O_digest 132 = .ok (.lmul, 1) := by decide +kernel
theorem d_O_digest_133 : decode b_O_digest 133 = .ok (.aload_n 0, 1) := by decide +kernel
theorem d_O_digest_134 : decode b_O_digest 134 = .ok (.iload_n 3, 1) := by decide +kernel
theorem d_O_digest_135 : decode b_O_digest 135 = .ok (.iload 4, 2) := by decide +kernel
theorem d_O_digest_137 : decode b_O_digest 137 = .ok (.invokevirtual 225, 3) := by decide +kernel
theorem d_O_digest_140 : decode b_O_digest 140 = .ok (.i2l, 1) := by decide +kernel
theorem d_O_digest_141 : decode b_O_digest 141 = .ok (.ladd, 1) := by decide +kernel
theorem d_O_digest_142 : decode b_O_digest 142 = .ok (.lstore_n 1, 1) := by decide +kernel
theorem d_O_digest_143 : decode b_O_digest 143 = .ok (.iinc 4 1, 3) := by decide +kernel
theorem d_O_digest_146 : decode b_O_digest 146 = .ok (.goto (-24), 3) := by decide +kernel
theorem d_O_digest_149 : decode b_O_digest 149 = .ok (.iinc 3 1, 3) := by decide +kernel
theorem d_O_digest_152 : decode b_O_digest 152 = .ok (.goto (-39), 3) := by decide +kernel
theorem d_O_digest_155 : decode b_O_digest 155 = .ok (.getstatic 228, 3) := by decide +kernel
theorem d_O_digest_158 : decode b_O_digest 158 = .ok (.astore_n 3, 1) := by decide +kernel
theorem d_O_digest_159 : decode b_O_digest 159 = .ok (.aload_n 3, 1) := by decide +kernel
theorem d_O_digest_160 : decode b_O_digest 160 = .ok (.arraylength, 1) := by decide +kernel
theorem d_O_digest_161 : decode b_O_digest 161 = .ok (.istore 4, 2) := by decide +kernel
theorem d_O_digest_163 : decode b_O_digest 163 = .ok (.iconst 0, 1) := by decide +kernel
theorem d_O_digest_164 : decode b_O_digest 164 = .ok (.istore 5, 2) := by decide +kernel
theorem d_O_digest_166 : decode b_O_digest 166 = .ok (.iload 5, 2) := by decide +kernel
theorem d_O_digest_168 : decode b_O_digest 168 = .ok (.iload 4, 2) := by decide +kernel
theorem d_O_digest_170 : decode b_O_digest 170 = .ok (.if_icmp .ge 47, 3) := by decide +kernel
theorem d_O_digest_173 : decode b_O_digest 173 = .ok (.aload_n 3, 1) := by decide +kernel
theorem d_O_digest_174 : decode b_O_digest 174 = .ok (.iload 5, 2) := by decide +kernel
theorem d_O_digest_176 : decode b_O_digest 176 = .ok (.iaload, 1) := by decide +kernel
theorem d_O_digest_177 : decode b_O_digest 177 = .ok (.istore 6, 2) := by decide +kernel
theorem d_O_digest_179 : decode b_O_digest 179 = .ok (.iconst 0, 1) := by decide +kernel
theorem d_O_digest_180 : decode b_O_digest 180 = .ok (.istore 7, 2) := by decide +kernel
theorem d_O_digest_182 : decode b_O_digest 182 = .ok (.iload 7, 2) := by decide +kernel
theorem d_O_digest_184 : decode b_O_digest 184 = .ok (.bipush 8, 2) := by decide +kernel
theorem d_O_digest_186 : decode b_O_digest 186 = .ok (.if_icmp .ge 25, 3) := by decide +kernel
theorem d_O_digest_189 : decode b_O_digest 189 = .ok (.ldc2_w 211, 3) := by decide +kernel
theorem d_O_digest_192 : decode b_O_digest 192 = .ok (.lload_n 1, 1) := by decide +kernel
theorem d_O_digest_193 : decode b_O_digest 193 = .ok (.lmul, 1) := by decide +kernel
theorem d_O_digest_194 : decode b_O_digest 194 = .ok (.aload_n 0, 1) := by decide +kernel
theorem d_O_digest_195 : decode b_O_digest 195 = .ok (.iload 6, 2) := by decide +kernel
theorem d_O_digest_197 : decode b_O_digest 197 = .ok (.iload 7, 2) := by decide +kernel
theorem d_O_digest_199 : decode b_O_digest 199 = .ok (.invokevirtual 231, 3) := by decide +kernel
theorem d_O_digest_202 : decode b_O_digest 202 = .ok (.i2l, 1) := by decide +kernel
theorem d_O_digest_203 : decode b_O_digest 203 = .ok (.ladd, 1) := by decide +kernel
theorem d_O_digest_204 : decode b_O_digest 204 = .ok (.lstore_n 1, 1) := by decide +kernel
theorem d_O_digest_205 : decode b_O_digest 205 = .ok (.iinc 7 1, 3) := by decide +kernel
theorem d_O_digest_208 : decode b_O_digest 208 = .ok (.goto (-26), 3) := by decide +kernel
theorem d_O_digest_211 : decode b_O_digest 211 = .ok (.iinc 5 1, 3) := by decide +kernel
theorem d_O_digest_214 : decode b_O_digest 214 = .ok (.goto (-48), 3) := by decide +kernel
theorem d_O_digest_217 : decode b_O_digest 217 = .ok (.getstatic 234, 3) := by decide +kernel
theorem d_O_digest_220 : decode b_O_digest 220 = .ok (.astore_n 3, 1) := by decide +kernel
theorem d_O_digest_221 : decode b_O_digest 221 = .ok (.aload_n 3, 1) := by decide +kernel
theorem d_O_digest_222 : decode b_O_digest 222 = .ok (.arraylength, 1) := by decide +kernel
theorem d_O_digest_223 : decode b_O_digest 223 = .ok (.istore 4, 2) := by decide +kernel
theorem d_O_digest_225 : decode b_O_digest 225 = .ok (.iconst 0, 1) := by decide +kernel
theorem d_O_digest_226 : decode b_O_digest 226 = .ok (.istore 5, 2) := by decide +kernel
theorem d_O_digest_228 : decode b_O_digest 228 = .ok (.iload 5, 2) := by decide +kernel
theorem d_O_digest_230 : decode b_O_digest 230 = .ok (.iload 4, 2) := by decide +kernel
theorem d_O_digest_232 : decode b_O_digest 232 = .ok (.if_icmp .ge 43, 3) := by decide +kernel
theorem d_O_digest_235 : decode b_O_digest 235 = .ok (.aload_n 3, 1) := by decide +kernel
theorem d_O_digest_236 : decode b_O_digest 236 = .ok (.iload 5, 2) := by decide +kernel
theorem d_O_digest_238 : decode b_O_digest 238 = .ok (.iaload, 1) := by decide +kernel
theorem d_O_digest_239 : decode b_O_digest 239 = .ok (.istore 6, 2) := by decide +kernel
theorem d_O_digest_241 : decode b_O_digest 241 = .ok (.ldc2_w 211, 3) := by decide +kernel
theorem d_O_digest_244 : decode b_O_digest 244 = .ok (.lload_n 1, 1) := by decide +kernel
theorem d_O_digest_245 : decode b_O_digest 245 = .ok (.lmul, 1) := by decide +kernel
theorem d_O_digest_246 : decode b_O_digest 246 = .ok (.aload_n 0, 1) := by decide +kernel
theorem d_O_digest_247 : decode b_O_digest 247 = .ok (.iload 6, 2) := by decide +kernel
theorem d_O_digest_249 : decode b_O_digest 249 = .ok (.invokevirtual 237, 3) := by decide +kernel
theorem d_O_digest_252 : decode b_O_digest 252 = .ok (.i2l, 1) := by decide +kernel
theorem d_O_digest_253 : decode b_O_digest 253 = .ok (.ladd, 1) := by decide +kernel
theorem d_O_digest_254 : decode b_O_digest 254 = .ok (.lstore_n 1, 1) := by decide +kernel
theorem d_O_digest_255 : decode b_O_digest 255 = .ok (.ldc2_w 211, 3) := by decide +kernel
theorem d_O_digest_258 : decode b_O_digest 258 = .ok (.lload_n 1, 1) := by decide +kernel
theorem d_O_digest_259 : decode b_O_digest 259 = .ok (.lmul, 1) := by decide +kernel
theorem d_O_digest_260 : decode b_O_digest 260 = .ok (.aload_n 0, 1) := by decide +kernel
theorem d_O_digest_261 : decode b_O_digest 261 = .ok (.iload 6, 2) := by decide +kernel
theorem d_O_digest_263 : decode b_O_digest 263 = .ok (.invokevirtual 240, 3) := by decide +kernel
theorem d_O_digest_266 : decode b_O_digest 266 = .ok (.i2l, 1) := by decide +kernel
theorem d_O_digest_267 : decode b_O_digest 267 = .ok (.ladd, 1) := by decide +kernel
theorem d_O_digest_268 : decode b_O_digest 268 = .ok (.lstore_n 1, 1) := by decide +kernel
theorem d_O_digest_269 : decode b_O_digest 269 = .ok (.iinc 5 1, 3) := by decide +kernel
theorem d_O_digest_272 : decode b_O_digest 272 = .ok (.goto (-44), 3) := by decide +kernel
theorem d_O_digest_275 : decode b_O_digest 275 = .ok (.iconst 0, 1) := by decide +kernel
theorem d_O_digest_276 : decode b_O_digest 276 = .ok (.istore_n 3, 1) := by decide +kernel
theorem d_O_digest_277 : decode b_O_digest 277 = .ok (.iload_n 3, 1) := by decide +kernel
theorem d_O_digest_278 : decode b_O_digest 278 = .ok (.aload_n 0, 1) := by decide +kernel
theorem d_O_digest_279 : decode b_O_digest 279 = .ok (.getfield 9, 3) := by decide +kernel
theorem d_O_digest_282 : decode b_O_digest 282 = .ok (.if_icmp .ge 59, 3) := by decide +kernel
theorem d_O_digest_285 : decode b_O_digest 285 = .ok (.iconst 0, 1) := by decide +kernel
theorem d_O_digest_286 : decode b_O_digest 286 = .ok (.istore 4, 2) := by decide +kernel
theorem d_O_digest_288 : decode b_O_digest 288 = .ok (.iload 4, 2) := by decide +kernel
theorem d_O_digest_290 : decode b_O_digest 290 = .ok (.aload_n 0, 1) := by decide +kernel
theorem d_O_digest_291 : decode b_O_digest 291 = .ok (.getfield 9, 3) := by decide +kernel
theorem d_O_digest_294 : decode b_O_digest 294 = .ok (.if_icmp .ge 41, 3) := by decide +kernel
theorem d_O_digest_297 : decode b_O_digest 297 = .ok (.ldc2_w 211, 3) := by decide +kernel
theorem d_O_digest_300 : decode b_O_digest 300 = .ok (.lload_n 1, 1) := by decide +kernel
theorem d_O_digest_301 : decode b_O_digest 301 = .ok (.lmul, 1) := by decide +kernel
theorem d_O_digest_302 : decode b_O_digest 302 = .ok (.aload_n 0, 1) := by decide +kernel
theorem d_O_digest_303 : decode b_O_digest 303 = .ok (.iload_n 3, 1) := by decide +kernel
theorem d_O_digest_304 : decode b_O_digest 304 = .ok (.iload 4, 2) := by decide +kernel
theorem d_O_digest_306 : decode b_O_digest 306 = .ok (.iconst 0, 1) := by decide +kernel
theorem d_O_digest_307 : decode b_O_digest 307 = .ok (.invokevirtual 243, 3) := by decide +kernel
theorem d_O_digest_310 : decode b_O_digest 310 = .ok (.i2l, 1) := by decide +kernel
theorem d_O_digest_311 : decode b_O_digest 311 = .ok (.ladd, 1) := by decide +kernel
theorem d_O_digest_312 : decode b_O_digest 312 = .ok (.lstore_n 1, 1) := by decide +kernel
theorem d_O_digest_313 : decode b_O_digest 313 = .ok (.ldc2_w 211, 3) := by decide +kernel
theorem d_O_digest_316 : decode b_O_digest 316 = .ok (.lload_n 1, 1) := by decide +kernel
theorem d_O_digest_317 : decode b_O_digest 317 = .ok (.lmul, 1) := by decide +kernel
theorem d_O_digest_318 : decode b_O_digest 318 = .ok (.aload_n 0, 1) := by decide +kernel
theorem d_O_digest_319 : decode b_O_digest 319 = .ok (.iload_n 3, 1) := by decide +kernel
theorem d_O_digest_320 : decode b_O_digest 320 = .ok (.iload 4, 2) := by decide +kernel
theorem d_O_digest_322 : decode b_O_digest 322 = .ok (.iconst 1, 1) := by decide +kernel
theorem d_O_digest_323 : decode b_O_digest 323 = .ok (.invokevirtual 243, 3) := by decide +kernel
theorem d_O_digest_326 : decode b_O_digest 326 = .ok (.i2l, 1) := by decide +kernel
theorem d_O_digest_327 : decode b_O_digest 327 = .ok (.ladd, 1) := by decide +kernel
theorem d_O_digest_328 : decode b_O_digest 328 = .ok (.lstore_n 1, 1) := by decide +kernel
theorem d_O_digest_329 : decode b_O_digest 329 = .ok (.iinc 4 1, 3) := by decide +kernel
theorem d_O_digest_332 : decode b_O_digest 332 = .ok (.goto (-44), 3) := by decide +kernel
theorem d_O_digest_335 : decode b_O_digest 335 = .ok (.iinc 3 1, 3) := by decide +kernel
theorem d_O_digest_338 : decode b_O_digest 338 = .ok (.goto (-61), 3) := by decide +kernel
theorem d_O_digest_341 : decode b_O_digest 341 = .ok (.ldc2_w 211, 3) := by decide +kernel
theorem d_O_digest_344 : decode b_O_digest 344 = .ok (.lload_n 1, 1) := by decide +kernel
theorem d_O_digest_345 : decode b_O_digest 345 = .ok (.lmul, 1) := by decide +kernel
theorem d_O_digest_346 : decode b_O_digest 346 = .ok (.aload_n 0, 1) := by decide +kernel
theorem d_O_digest_347 : decode b_O_digest 347 = .ok (.invokevirtual 246, 3) := by decide +kernel
theorem d_O_digest_350 : decode b_O_digest 350 = .ok (.i2l, 1) := by decide +kernel
theorem d_O_digest_351 : decode b_O_digest 351 = .ok (.ladd, 1) := by decide +kernel
theorem d_O_digest_352 : decode b_O_digest 352 = .ok (.lstore_n 1, 1) := by decide +kernel
theorem d_O_digest_353 : decode b_O_digest 353 = .ok (.ldc2_w 211, 3) := by decide +kernel
theorem d_O_digest_356 : decode b_O_digest 356 = .ok (.lload_n 1, 1) := by decide +kernel
theorem d_O_digest_357 : decode b_O_digest 357 = .ok (.lmul, 1) := by decide +kernel
theorem d_O_digest_358 : decode b_O_digest 358 = .ok (.aload_n 0, 1) := by decide +kernel
theorem d_O_digest_359 : decode b_O_digest 359 = .ok (.invokevirtual 157, 3) := by decide +kernel
theorem d_O_digest_362 : decode b_O_digest 362 = .ok (.i2l, 1) := by decide +kernel
theorem d_O_digest_363 : decode b_O_digest 363 = .ok (.ladd, 1) := by decide +kernel
theorem d_O_digest_364 : decode b_O_digest 364 = .ok (.lstore_n 1, 1) := by decide +kernel
theorem d_O_digest_365 : decode b_O_digest 365 = .ok (.ldc2_w 211, 3) := by decide +kernel
theorem d_O_digest_368 : decode b_O_digest 368 = .ok (.lload_n 1, 1) := by decide +kernel
theorem d_O_digest_369 : decode b_O_digest 369 = .ok (.lmul, 1) := by decide +kernel
theorem d_O_digest_370 : decode b_O_digest 370 = .ok (.aload_n 0, 1) := by decide +kernel
theorem d_O_digest_371 : decode b_O_digest 371 = .ok (.invokevirtual 166, 3) := by decide +kernel
theorem d_O_digest_374 : decode b_O_digest 374 = .ok (.i2l, 1) := by decide +kernel
theorem d_O_digest_375 : decode b_O_digest 375 = .ok (.ladd, 1) := by decide +kernel
theorem d_O_digest_376 : decode b_O_digest 376 = .ok (.lstore_n 1, 1) := by decide +kernel
theorem d_O_digest_377 : decode b_O_digest 377 = .ok (.ldc2_w 211, 3) := by decide +kernel
theorem d_O_digest_380 : decode b_O_digest 380 = .ok (.lload_n 1, 1) := by decide +kernel
theorem d_O_digest_381 : decode b_O_digest 381 = .ok (.lmul, 1) := by decide +kernel
theorem d_O_digest_382 : decode b_O_digest 382 = .ok (.aload_n 0, 1) := by decide +kernel
theorem d_O_digest_383 : decode b_O_digest 383 = .ok (.invokevirtual 249, 3) := by decide +kernel
theorem d_O_digest_386 : decode b_O_digest 386 = .ok (.i2l, 1) := by decide +kernel
theorem d_O_digest_387 : decode b_O_digest 387 = .ok (.ladd, 1) := by decide +kernel
theorem d_O_digest_388 : decode b_O_digest 388 = .ok (.lreturn, 1) := by decide +kernel
theorem d_M_init_0 : decode b_M_init 0 = .ok (.aload_n 0, 1) := by decide +kernel
theorem d_M_init_1 : decode b_M_init 1 = .ok (.invokespecial 1, 3) := by decide +kernel
theorem d_M_init_4 : decode b_M_init 4 = .ok (.aload_n 0, 1) := by decide +kernel
theorem d_M_init_5 : decode b_M_init 5 = .ok (.iconst 5, 1) := by decide +kernel
theorem d_M_init_6 : decode b_M_init 6 = .ok (.putfield 7, 3) := by decide +kernel
theorem d_M_init_9 : decode b_M_init 9 = .ok (.aload_n 0, 1) := by decide +kernel
theorem d_M_init_10 : decode b_M_init 10 = .ok (.bipush 10, 2) := by decide +kernel
theorem d_M_init_12 : decode b_M_init 12 = .ok (.newarray .int, 2) := by decide +kernel
theorem d_M_init_14 : decode b_M_init 14 = .ok (.putfield 13, 3) := by decide +kernel
theorem d_M_init_17 : decode b_M_init 17 = .ok (.aload_n 0, 1) := by decide +kernel
theorem d_M_init_18 : decode b_M_init 18 = .ok (.sipush 256, 3) := by decide +kernel
theorem d_M_init_21 : decode b_M_init 21 = .ok (.newarray .int, 2) := by decide +kernel
theorem d_M_init_23 : decode b_M_init 23 = .ok (.putfield 17, 3) := by decide +kernel
theorem d_M_init_26 : decode b_M_init 26 = .ok (.aload_n 0, 1) := by decide +kernel
theorem d_M_init_27 : decode b_M_init 27 = .ok (.sipush 256, 3) := by decide +kernel
theorem d_M_init_30 : decode b_M_init 30 = .ok (.newarray .int, 2) := by decide +kernel
theorem d_M_init_32 : decode b_M_init 32 = .ok (.putfield 20, 3) := by decide +kernel
theorem d_M_init_35 : decode b_M_init 35 = .ok (.aload_n 0, 1) := by decide +kernel
theorem d_M_init_36 : decode b_M_init 36 = .ok (.sipush 256, 3) := by decide +kernel
theorem d_M_init_39 : decode b_M_init 39 = .ok (.newarray .int, 2) := by decide +kernel
theorem d_M_init_41 : decode b_M_init 41 = .ok (.putfield 23, 3) := by decide +kernel
theorem d_M_init_44 : decode b_M_init 44 = .ok (.aload_n 0, 1) := by decide +kernel
theorem d_M_init_45 : decode b_M_init 45 = .ok (.sipush 256, 3) := by decide +kernel
theorem d_M_init_48 : decode b_M_init 48 = .ok (.newarray .int, 2) := by decide +kernel
theorem d_M_init_50 : decode b_M_init 50 = .ok (.putfield 26, 3) := by decide +kernel
theorem d_M_init_53 : decode b_M_init 53 = .ok (.aload_n 0, 1) := by decide +kernel
theorem d_M_init_54 : decode b_M_init 54 = .ok (.bipush 8, 2) := by decide +kernel
theorem d_M_init_56 : decode b_M_init 56 = .ok (.newarray .int, 2) := by decide +kernel
theorem d_M_init_58 : decode b_M_init 58 = .ok (.putfield 29, 3) := by decide +kernel
theorem d_M_init_61 : decode b_M_init 61 = .ok (.aload_n 0, 1) := by decide +kernel
theorem d_M_init_62 : decode b_M_init 62 = .ok (.bipush 8, 2) := by decide +kernel
theorem d_M_init_64 : decode b_M_init 64 = .ok (.newarray .int, 2) := by decide +kernel
theorem d_M_init_66 : decode b_M_init 66 = .ok (.putfield 32, 3) := by decide +kernel
theorem d_M_init_69 : decode b_M_init 69 = .ok (.aload_n 0, 1) := by decide +kernel
theorem d_M_init_70 : decode b_M_init 70 = .ok (.bipush 8, 2) := by decide +kernel
theorem d_M_init_72 : decode b_M_init 72 = .ok (.newarray .int, 2) := by decide +kernel
theorem d_M_init_74 : decode b_M_init 74 = .ok (.putfield 35, 3) := by decide +kernel
theorem d_M_init_77 : decode b_M_init 77 = .ok (.aload_n 0, 1) := by decide +kernel
theorem d_M_init_78 : decode b_M_init 78 = .ok (.bipush 64, 2) := by decide +kernel
theorem d_M_init_80 : decode b_M_init 80 = .ok (.newarray .int, 2) := by decide +kernel
theorem d_M_init_82 : decode b_M_init 82 = .ok (.putfield 38, 3) := by decide +kernel
theorem d_M_init_85 : decode b_M_init 85 = .ok (.aload_n 0, 1) := by decide +kernel
theorem d_M_init_86 : decode b_M_init 86 = .ok (.bipush 40, 2) := by decide +kernel
theorem d_M_init_88 : decode b_M_init 88 = .ok (.newarray .int, 2) := by decide +kernel
theorem d_M_init_90 : decode b_M_init 90 = .ok (.putfield 41, 3) := by decide +kernel
theorem d_M_init_93 : decode b_M_init 93 = .ok (.aload_n 0, 1) := by decide +kernel
theorem d_M_init_94 : decode b_M_init 94 = .ok (.sipush 256, 3) := by decide +kernel
theorem d_M_init_97 : decode b_M_init 97 = .ok (.newarray .int, 2) := by decide +kernel
theorem d_M_init_99 : decode b_M_init 99 = .ok (.putfield 44, 3) := by decide +kernel
theorem d_M_init_102 : decode b_M_init 102 = .ok (.aload_n 0, 1) := by decide +kernel
theorem d_M_init_103 : decode b_M_init 103 = .ok (.bipush 64, 2) := by decide +kernel
theorem d_M_init_105 : decode b_M_init 105 = .ok (.newarray .int, 2) := by decide +kernel
theorem d_M_init_107 : decode b_M_init 107 = .ok (.putfield 47, 3) := by decide +kernel
theorem d_M_init_110 : decode b_M_init 110 = .ok (.aload_n 0, 1) := by decide +kernel
theorem d_M_init_111 : decode b_M_init 111 = .ok (.bipush 8, 2) := by decide +kernel
theorem d_M_init_113 : decode b_M_init 113 = .ok (.newarray .int, 2) := by decide +kernel
theorem d_M_init_115 : decode b_M_init 115 = .ok (.putfield 50, 3) := by decide +kernel
theorem d_M_init_118 : decode b_M_init 118 = .ok (.aload_n 0, 1) := by decide +kernel
theorem d_M_init_119 : decode b_M_init 119 = .ok (.bipush 8, 2) := by decide +kernel
theorem d_M_init_121 : decode b_M_init 121 = .ok (.newarray .int, 2) := by decide +kernel
theorem d_M_init_123 : decode b_M_init 123 = .ok (.putfield 53, 3) := by decide +kernel
theorem d_M_init_126 : decode b_M_init 126 = .ok (.aload_n 0, 1) := by decide +kernel
theorem d_M_init_127 : decode b_M_init 127 = .ok (.bipush 8, 2) := by decide +kernel
theorem d_M_init_129 : decode b_M_init 129 = .ok (.newarray .int, 2) := by decide +kernel
theorem d_M_init_131 : decode b_M_init 131 = .ok (.putfield 56, 3) := by decide +kernel
theorem d_M_init_134 : decode b_M_init 134 = .ok (.aload_n 0, 1) := by decide +kernel
theorem d_M_init_135 : decode b_M_init 135 = .ok (.sipush 256, 3) := by decide +kernel
theorem d_M_init_138 : decode b_M_init 138 = .ok (.newarray .int, 2) := by decide +kernel
theorem d_M_init_140 : decode b_M_init 140 = .ok (.putfield 59, 3) := by decide +kernel
theorem d_M_init_143 : decode b_M_init 143 = .ok (.aload_n 0, 1) := by decide +kernel
theorem d_M_init_144 : decode b_M_init 144 = .ok (.bipush 8, 2) := by decide +kernel
theorem d_M_init_146 : decode b_M_init 146 = .ok (.newarray .int, 2) := by decide +kernel
theorem d_M_init_148 : decode b_M_init 148 = .ok (.putfield 62, 3) := by decide +kernel
theorem d_M_init_151 : decode b_M_init 151 = .ok (.aload_n 0, 1) := by decide +kernel
theorem d_M_init_152 : decode b_M_init 152 = .ok (.iconst 4, 1) := by decide +kernel
theorem d_M_init_153 : decode b_M_init 153 = .ok (.newarray .boolean, 2) := by decide +kernel
theorem d_M_init_155 : decode b_M_init 155 = .ok (.putfield 65, 3) := by decide +kernel
theorem d_M_init_158 : decode b_M_init 158 = .ok (.aload_n 0, 1) := by decide +kernel
theorem d_M_init_159 : decode b_M_init 159 = .ok (.iconst 4, 1) := by decide +kernel
theorem d_M_init_160 : decode b_M_init 160 = .ok (.newarray .int, 2) := by decide +kernel
theorem d_M_init_162 : decode b_M_init 162 = .ok (.putfield 69, 3) := by decide +kernel
theorem d_M_init_165 : decode b_M_init 165 = .ok (.aload_n 0, 1) := by decide +kernel
theorem d_M_init_166 : decode b_M_init 166 = .ok (.iconst 4, 1) := by decide +kernel
theorem d_M_init_167 : decode b_M_init 167 = .ok (.newarray .int, 2) := by decide +kernel
theorem d_M_init_169 : decode b_M_init 169 = .ok (.putfield 72, 3) := by decide +kernel
theorem d_M_init_172 : decode b_M_init 172 = .ok (.aload_n 0, 1) := by decide +kernel
theorem d_M_init_173 : decode b_M_init 173 = .ok (.sipush 240, 3) := by decide +kernel
theorem d_M_init_176 : decode b_M_init 176 = .ok (.newarray .int, 2) := by decide +kernel
theorem d_M_init_178 : decode b_M_init 178 = .ok (.putfield 75, 3) := by decide +kernel
theorem d_M_init_181 : decode b_M_init 181 = .ok (.aload_n 0, 1) := by decide +kernel
theorem d_M_init_182 : decode b_M_init 182 = .ok (.bipush 60, 2) := by decide +kernel
theorem d_M_init_184 : decode b_M_init 184 = .ok (.newarray .int, 2) := by decide +kernel
theorem d_M_init_186 : decode b_M_init 186 = .ok (.putfield 78, 3) := by decide +kernel
theorem d_M_init_189 : decode b_M_init 189 = .ok (.return_, 1) := by decide +kernel
theorem d_M_in_0 : decode b_M_in 0 = .ok (.iload_n 0, 1) := by decide +kernel
theorem d_M_in_1 : decode b_M_in 1 = .ok (.iload_n 1, 1) := by decide +kernel
theorem d_M_in_2 : decode b_M_in 2 = .ok (.if_icmp .lt 12, 3) := by decide +kernel
theorem d_M_in_5 : decode b_M_in 5 = .ok (.iload_n 0, 1) := by decide +kernel
theorem d_M_in_6 : decode b_M_in 6 = .ok (.iload_n 2, 1) := by decide +kernel
theorem d_M_in_7 : decode b_M_in 7 = .ok (.if_icmp .gt 7, 3) := by decide +kernel
theorem d_M_in_10 : decode b_M_in 10 = .ok (.iconst 1, 1) := by decide +kernel
theorem d_M_in_11 : decode b_M_in 11 = .ok (.goto 4, 3) := by decide +kernel
theorem d_M_in_14 : decode b_M_in 14 = .ok (.iconst 0, 1) := by decide +kernel
theorem d_M_in_15 : decode b_M_in 15 = .ok (.ireturn, 1) := by decide +kernel
theorem d_M_isIn_0 : decode b_M_isIn 0 = .ok (.iload_n 0, 1) := by decide +kernel
theorem d_M_isIn_1 : decode b_M_isIn 1 = .ok (.iload_n 1, 1) := by decide +kernel
theorem d_M_isIn_2 : decode b_M_isIn 2 = .ok (.ishr, 1) := by decide +kernel
theorem d_M_isIn_3 : decode b_M_isIn 3 = .ok (.iconst 1, 1) := by decide +kernel
theorem d_M_isIn_4 : decode b_M_isIn 4 = .ok (.iand, 1) := by decide +kernel
theorem d_M_isIn_5 : decode b_M_isIn 5 = .ok (.iconst 1, 1) := by decide +kernel
theorem d_M_isIn_6 : decode b_M_isIn 6 = .ok (.if_icmp .ne 7, 3) := by decide +kernel
theorem d_M_isIn_9 : decode b_M_isIn 9 = .ok (.iconst 1, 1) := by decide +kernel
theorem d_M_isIn_10 : decode b_M_isIn 10 = .ok (.goto 4, 3) := by decide +kernel
theorem d_M_isIn_13 : decode b_M_isIn 13 = .ok (.iconst 0, 1) := by decide +kernel
theorem d_M_isIn_14 : decode b_M_isIn 14 = .ok (.ireturn, 1) := by decide +kernel
theorem d_M_many_0 : decode b_M_many 0 = .ok (.iconst 0, 1) := by decide +kernel
theorem d_M_many_1 : decode b_M_many 1 = .ok (.istore_n 1, 1) := by decide +kernel
theorem d_M_many_2 : decode b_M_many 2 = .ok (.iconst 0, 1) := by decide +kernel
theorem d_M_many_3 : decode b_M_many 3 = .ok (.istore_n 2, 1) := by decide +kernel
theorem d_M_many_4 : decode b_M_many 4 = .ok (.iload_n 2, 1) := by decide +kernel
theorem d_M_many_5 : decode b_M_many 5 = .ok (.bipush 8, 2) := by decide +kernel
theorem d_M_many_7 : decode b_M_many 7 = .ok (.if_icmp .ge 25, 3) := by decide +kernel
theorem d_M_many_10 : decode b_M_many 10 = .ok (.iload_n 1, 1) := by decide +kernel
theorem d_M_many_11 : decode b_M_many 11 = .ok (.iload_n 0, 1) := by decide +kernel
theorem d_M_many_12 : decode b_M_many 12 = .ok (.iload_n 2, 1) := by decide +kernel
theorem d_M_many_13 : decode b_M_many 13 = .ok (.invokestatic 81, 3) := by decide +kernel
theorem d_M_many_16 : decode b_M_many 16 = .ok (.ifCond .eq 7, 3) := by decide +kernel
theorem d_M_many_19 : decode b_M_many 19 = .ok (.iconst 1, 1) := by decide +kernel
theorem d_M_many_20 : decode b_M_many 20 = .ok (.goto 4, 3) := by decide +kernel
theorem d_M_many_23 : decode b_M_many 23 = .ok (.iconst 0, 1) := by decide +kernel
theorem d_M_many_24 : decode b_M_many 24 = .ok (.iadd, 1) := by decide +kernel
theorem d_M_many_25 : decode b_M_many 25 = .ok (.istore_n 1, 1) := by decide +kernel
theorem d_M_many_26 : decode b_M_many 26 = .ok (.iinc 2 1, 3) := by decide +kernel
theorem d_M_many_29 : decode b_M_many 29 = .ok (.goto (-25), 3) := by decide +kernel
theorem d_M_many_32 : decode b_M_many 32 = .ok (.iload_n 1, 1) := by decide +kernel
theorem d_M_many_33 : decode b_M_many 33 = .ok (.ireturn, 1) := by decide +kernel
theorem d_M_least_0 : decode b_M_least 0 = .ok (.iconst 0, 1) := by decide +kernel
theorem d_M_least_1 : decode b_M_least 1 = .ok (.istore_n 1, 1) := by decide +kernel
theorem d_M_least_2 : decode b_M_least 2 = .ok (.iload_n 0, 1) := by decide +kernel
theorem d_M_least_3 : decode b_M_least 3 = .ok (.iload_n 1, 1) := by decide +kernel
theorem d_M_least_4 : decode b_M_least 4 = .ok (.invokestatic 81, 3) := by decide +kernel
theorem d_M_least_7 : decode b_M_least 7 = .ok (.ifCond .ne 9, 3) := by decide +kernel
theorem d_M_least_10 : decode b_M_least 10 = .ok (.iinc 1 1, 3) := by decide +kernel
theorem d_M_least_13 : decode b_M_least 13 = .ok (.goto (-11), 3) := by decide +kernel
theorem d_M_least_16 : decode b_M_least 16 = .ok (.iload_n 1, 1) := by decide +kernel
theorem d_M_least_17 : decode b_M_least 17 = .ok (.ireturn, 1) := by decide +kernel
theorem d_M_all_0 : decode b_M_all 0 = .ok (.iconst 1, 1) := by decide +kernel
theorem d_M_all_1 : decode b_M_all 1 = .ok (.aload_n 0, 1) := by decide +kernel
theorem d_M_all_2 : decode b_M_all 2 = .ok (.getfield 7, 3) := by decide +kernel
theorem d_M_all_5 : decode b_M_all 5 = .ok (.ishl, 1) := by decide +kernel
theorem d_M_all_6 : decode b_M_all 6 = .ok (.iconst 1, 1) := by decide +kernel
theorem d_M_all_7 : decode b_M_all 7 = .ok (.isub, 1) := by decide +kernel
theorem d_M_all_8 : decode b_M_all 8 = .ok (.ireturn, 1) := by decide +kernel
theorem d_M_things_0 : decode b_M_things 0 = .ok (.iload_n 1, 1) := by decide +kernel
theorem d_M_things_1 : decode b_M_things 1 = .ok (.iconst 1, 1) := by decide +kernel
theorem d_M_things_2 : decode b_M_things 2 = .ok (.bipush 8, 2) := by decide +kernel
theorem d_M_things_4 : decode b_M_things 4 = .ok (.invokestatic 85, 3) := by decide +kernel
theorem d_M_things_7 : decode b_M_things 7 = .ok (.ifCond .ne 6, 3) := by decide +kernel
theorem d_M_things_10 : decode b_M_things 10 = .ok (.bipush (-2), 2) := by decide +kernel
theorem d_M_things_12 : decode b_M_things 12 = .ok (.ireturn, 1) := by decide +kernel
theorem d_M_things_13 : decode b_M_things 13 = .ok (.aload_n 0, 1) := by decide +kernel
theorem d_M_things_14 : decode b_M_things 14 = .ok (.getfield 7, 3) := by decide +kernel
theorem d_M_things_17 : decode b_M_things 17 = .ok (.istore_n 2, 1) := by decide +kernel
theorem d_M_things_18 : decode b_M_things 18 = .ok (.aload_n 0, 1) := by decide +kernel
theorem d_M_things_19 : decode b_M_things 19 = .ok (.iload_n 1, 1) := by decide +kernel
theorem d_M_things_20 : decode b_M_things 20 = .ok (.putfield 7, 3) := by decide +kernel
theorem d_M_things_23 : decode b_M_things 23 = .ok (.iload_n 2, 1) := by decide +kernel
theorem d_M_things_24 : decode b_M_things 24 = .ok (.ireturn, 1) := by decide +kernel
theorem d_M_nexts_0 : decode b_M_nexts 0 = .ok (.aload_n 0, 1) := by decide +kernel
theorem d_M_nexts_1 : decode b_M_nexts 1 = .ok (.invokevirtual 110, 3) := by decide +kernel
theorem d_M_nexts_4 : decode b_M_nexts 4 = .ok (.iload_n 1, 1) := by decide +kernel
theorem d_M_nexts_5 : decode b_M_nexts 5 = .ok (.iconst (-1), 1) := by decide +kernel
theorem d_M_nexts_6 : decode b_M_nexts 6 = .ok (.ixor, 1) := by decide +kernel
theorem d_M_nexts_7 : decode b_M_nexts 7 = .ok (.iand, 1) := by decide +kernel
theorem d_M_nexts_8 : decode b_M_nexts 8 = .ok (.istore 4, 2) := by decide +kernel
theorem d_M_nexts_10 : decode b_M_nexts 10 = .ok (.iconst 0, 1) := by decide +kernel
theorem d_M_nexts_11 : decode b_M_nexts 11 = .ok (.istore 5, 2) := by decide +kernel
theorem d_M_nexts_13 : decode b_M_nexts 13 = .ok (.iload 5, 2) := by decide +kernel
theorem d_M_nexts_15 : decode b_M_nexts 15 = .ok (.bipush 11, 2) := by decide +kernel
theorem d_M_nexts_17 : decode b_M_nexts 17 = .ok (.if_icmp .ge 101, 3) := by decide +kernel
theorem d_M_nexts_20 : decode b_M_nexts 20 = .ok (.iload 5, 2) := by decide +kernel
theorem d_M_nexts_22 : decode b_M_nexts 22 = .ok (.bipush 10, 2) := by decide +kernel
theorem d_M_nexts_24 : decode b_M_nexts 24 = .ok (.if_icmp .eq 12, 3) := by decide +kernel
theorem d_M_nexts_27 : decode b_M_nexts 27 = .ok (.iload_n 2, 1) := by decide +kernel
theorem d_M_nexts_28 : decode b_M_nexts 28 = .ok (.iload 5, 2) := by decide +kernel
theorem d_M_nexts_30 : decode b_M_nexts 30 = .ok (.invokestatic 81, 3) := by decide +kernel
theorem d_M_nexts_33 : decode b_M_nexts 33 = .ok (.ifCond .eq 7, 3) := by decide +kernel
theorem d_M_nexts_36 : decode b_M_nexts 36 = .ok (.iconst 1, 1) := by decide +kernel
theorem d_M_nexts_37 : decode b_M_nexts 37 = .ok (.goto 4, 3) := by decide +kernel
theorem d_M_nexts_40 : decode b_M_nexts 40 = .ok (.iconst 0, 1) := by decide +kernel
theorem d_M_nexts_41 : decode b_M_nexts 41 = .ok (.istore 6, 2) := by decide +kernel
theorem d_M_nexts_43 : decode b_M_nexts 43 = .ok (.iload 5, 2) := by decide +kernel
theorem d_M_nexts_45 : decode b_M_nexts 45 = .ok (.bipush 10, 2) := by decide +kernel
theorem d_M_nexts_47 : decode b_M_nexts 47 = .ok (.if_icmp .ne 7, 3) := by decide +kernel
theorem d_M_nexts_50 : decode b_M_nexts 50 = .ok (.iload_n 3, 1) := by decide +kernel
theorem d_M_nexts_51 : decode b_M_nexts 51 = .ok (.goto 19, 3) := by decide +kernel
theorem d_M_nexts_54 : decode b_M_nexts 54 = .ok (.iload 6, 2) := by decide +kernel
theorem d_M_nexts_56 : decode b_M_nexts 56 = .ok (.ifCond .eq 13, 3) := by decide +kernel
theorem d_M_nexts_59 : decode b_M_nexts 59 = .ok (.aload_n 0, 1) := by decide +kernel
theorem d_M_nexts_60 : decode b_M_nexts 60 = .ok (.getfield 13, 3) := by decide +kernel
theorem d_M_nexts_63 : decode b_M_nexts 63 = .ok (.iload 5, 2) := by decide +kernel
theorem d_M_nexts_65 : decode b_M_nexts 65 = .ok (.iaload, 1) := by decide +kernel
theorem d_M_nexts_66 : decode b_M_nexts 66 = .ok (.goto 4, 3) := by decide +kernel
theorem d_M_nexts_69 : decode b_M_nexts 69 = .ok (.iconst 0, 1) := by decide +kernel
theorem d_M_nexts_70 : decode b_M_nexts 70 = .ok (.aload_n 0, 1) := by decide +kernel
theorem d_M_nexts_71 : decode b_M_nexts 71 = .ok (.invokevirtual 110, 3) := by decide +kernel
theorem d_M_nexts_74 : decode b_M_nexts 74 = .ok (.iand, 1) := by decide +kernel
theorem d_M_nexts_75 : decode b_M_nexts 75 = .ok (.istore 7, 2) := by decide +kernel
theorem d_M_nexts_77 : decode b_M_nexts 77 = .ok (.iload_n 1, 1) := by decide +kernel
theorem d_M_nexts_78 : decode b_M_nexts 78 = .ok (.iload 7, 2) := by decide +kernel
theorem d_M_nexts_80 : decode b_M_nexts 80 = .ok (.iand, 1) := by decide +kernel
theorem d_M_nexts_81 : decode b_M_nexts 81 = .ok (.istore 8, 2) := by decide +kernel
theorem d_M_nexts_83 : decode b_M_nexts 83 = .ok (.iload 6, 2) := by decide +kernel
theorem d_M_nexts_85 : decode b_M_nexts 85 = .ok (.ifCond .eq 23, 3) := by decide +kernel
theorem d_M_nexts_88 : decode b_M_nexts 88 = .ok (.iload 8, 2) := by decide +kernel
theorem d_M_nexts_90 : decode b_M_nexts 90 = .ok (.ifCond .eq 18, 3) := by decide +kernel
theorem d_M_nexts_93 : decode b_M_nexts 93 = .ok (.iload 8, 2) := by decide +kernel
theorem d_M_nexts_95 : decode b_M_nexts 95 = .ok (.iload 7, 2) := by decide +kernel
theorem d_M_nexts_97 : decode b_M_nexts 97 = .ok (.if_icmp .eq 11, 3) := by decide +kernel
theorem d_M_nexts_100 : decode b_M_nexts 100 = .ok (.iload 4, 2) := by decide +kernel
theorem d_M_nexts_102 : decode b_M_nexts 102 = .ok (.iload 7, 2) := by decide +kernel
theorem d_M_nexts_104 : decode b_M_nexts 104 = .ok (.iand, 1) := by decide +kernel
theorem d_M_nexts_105 : decode b_M_nexts 105 = .ok (.goto 5, 3) := by decide +kernel
theorem d_M_nexts_108 : decode b_M_nexts 108 = .ok (.iload 4, 2) := by decide +kernel
theorem d_M_nexts_110 : decode b_M_nexts 110 = .ok (.istore 4, 2) := by decide +kernel
theorem d_M_nexts_112 : decode b_M_nexts 112 = .ok (.iinc 5 1, 3) := by decide +kernel
theorem d_M_nexts_115 : decode b_M_nexts 115 = .ok (.goto (-102), 3) := by decide +kernel
theorem d_M_nexts_118 : decode b_M_nexts 118 = .ok (.iload 4, 2) := by decide +kernel
theorem d_M_nexts_120 : decode b_M_nexts 120 = .ok (.ireturn, 1) := by decide +kernel
theorem d_M_rowsBy_0 : decode b_M_rowsBy 0 = .ok (.iconst 0, 1) := by decide +kernel
theorem d_M_rowsBy_1 : decode b_M_rowsBy 1 = .ok (.istore_n 3, 1) := by decide +kernel
theorem d_M_rowsBy_2 : decode b_M_rowsBy 2 = .ok (.iload_n 3, 1) := by decide +kernel
theorem d_M_rowsBy_3 : decode b_M_rowsBy 3 = .ok (.aload_n 0, 1) := by decide +kernel
theorem d_M_rowsBy_4 : decode b_M_rowsBy 4 = .ok (.invokevirtual 110, 3) := by decide +kernel
theorem d_M_rowsBy_7 : decode b_M_rowsBy 7 = .ok (.if_icmp .gt 24, 3) := by decide +kernel
theorem d_M_rowsBy_10 : decode b_M_rowsBy 10 = .ok (.aload_n 0, 1) := by decide +kernel
theorem d_M_rowsBy_11 : decode b_M_rowsBy 11 = .ok (.getfield 17, 3) := by decide +kernel
theorem d_M_rowsBy_14 : decode b_M_rowsBy 14 = .ok (.iload_n 3, 1) := by decide +kernel
theorem d_M_rowsBy_15 : decode b_M_rowsBy 15 = .ok (.iload_n 3, 1) := by decide +kernel
theorem d_M_rowsBy_16 : decode b_M_rowsBy 16 = .ok (.ifCond .ne 7, 3) := by decide +kernel
theorem d_M_rowsBy_19 : decode b_M_rowsBy 19 = .ok (.iconst 1, 1) := by decide +kernel
theorem d_M_rowsBy_20 : decode b_M_rowsBy 20 = .ok (.goto 4, 3) := by decide +kernel
theorem d_M_rowsBy_23 : decode b_M_rowsBy 23 = .ok (.iconst 0, 1) := by decide +kernel
theorem d_M_rowsBy_24 : decode b_M_rowsBy 24 = .ok (.iastore, 1) := by decide +kernel
theorem d_M_rowsBy_25 : decode b_M_rowsBy 25 = .ok (.iinc 3 1, 3) := by decide +kernel
theorem d_M_rowsBy_28 : decode b_M_rowsBy 28 = .ok (.goto (-26), 3) := by decide +kernel
theorem d_M_rowsBy_31 : decode b_M_rowsBy 31 = .ok (.iconst 0, 1) := by decide +kernel
theorem d_M_rowsBy_32 : decode b_M_rowsBy 32 = .ok (.istore_n 3, 1) := by decide +kernel
theorem d_M_rowsBy_33 : decode b_M_rowsBy 33 = .ok (.iload_n 3, 1) := by decide +kernel
theorem d_M_rowsBy_34 : decode b_M_rowsBy 34 = .ok (.aload_n 0, 1) := by decide +kernel
theorem d_M_rowsBy_35 : decode b_M_rowsBy 35 = .ok (.invokevirtual 110, 3) := by decide +kernel
theorem d_M_rowsBy_38 : decode b_M_rowsBy 38 = .ok (.if_icmp .ge 83, 3) := by decide +kernel
theorem d_M_rowsBy_41 : decode b_M_rowsBy 41 = .ok (.aload_n 0, 1) := by decide +kernel
theorem d_M_rowsBy_42 : decode b_M_rowsBy 42 = .ok (.getfield 17, 3) := by decide +kernel
theorem d_M_rowsBy_45 : decode b_M_rowsBy 45 = .ok (.iload_n 3, 1) := by decide +kernel
theorem d_M_rowsBy_46 : decode b_M_rowsBy 46 = .ok (.iaload, 1) := by decide +kernel
theorem d_M_rowsBy_47 : decode b_M_rowsBy 47 = .ok (.ifCond .ne 7, 3) := by decide +kernel
theorem d_M_rowsBy_50 : decode b_M_rowsBy 50 = .ok (.iconst 0, 1) := by decide +kernel
theorem d_M_rowsBy_51 : decode b_M_rowsBy 51 = .ok (.goto 10, 3) := by decide +kernel
theorem d_M_rowsBy_54 : decode b_M_rowsBy 54 = .ok (.aload_n 0, 1) := by decide +kernel
theorem d_M_rowsBy_55 : decode b_M_rowsBy 55 = .ok (.iload_n 3, 1) := by decide +kernel
theorem d_M_rowsBy_56 : decode b_M_rowsBy 56 = .ok (.iload_n 1, 1) := by decide +kernel
theorem d_M_rowsBy_57 : decode b_M_rowsBy 57 = .ok (.iload_n 2, 1) := by decide +kernel
theorem d_M_rowsBy_58 : decode b_M_rowsBy 58 = .ok (.invokevirtual 113, 3) := by decide +kernel
theorem d_M_rowsBy_61 : decode b_M_rowsBy 61 = .ok (.istore 4, 2) := by decide +kernel
theorem d_M_rowsBy_63 : decode b_M_rowsBy 63 = .ok (.iconst 0, 1) := by decide +kernel
theorem d_M_rowsBy_64 : decode b_M_rowsBy 64 = .ok (.istore 5, 2) := by decide +kernel
theorem d_M_rowsBy_66 : decode b_M_rowsBy 66 = .ok (.iload 5, 2) := by decide +kernel
theorem d_M_rowsBy_68 : decode b_M_rowsBy 68 = .ok (.aload_n 0, 1) := by decide +kernel
theorem d_M_rowsBy_69 : decode b_M_rowsBy 69 = .ok (.getfield 7, 3) := by decide +kernel
theorem d_M_rowsBy_72 : decode b_M_rowsBy 72 = .ok (.if_icmp .ge 43, 3) := by decide +kernel
theorem d_M_rowsBy_75 : decode b_M_rowsBy 75 = .ok (.aload_n 0, 1) := by decide +kernel
theorem d_M_rowsBy_76 : decode b_M_rowsBy 76 = .ok (.getfield 17, 3) := by decide +kernel
theorem d_M_rowsBy_79 : decode b_M_rowsBy 79 = .ok (.iload_n 3, 1) := by decide +kernel
theorem d_M_rowsBy_80 : decode b_M_rowsBy 80 = .ok (.iconst 1, 1) := by decide +kernel
theorem d_M_rowsBy_81 : decode b_M_rowsBy 81 = .ok (.iload 5, 2) := by decide +kernel
theorem d_M_rowsBy_83 : decode b_M_rowsBy 83 = .ok (.ishl, 1) := by decide +kernel
theorem d_M_rowsBy_84 : decode b_M_rowsBy 84 = .ok (.ior, 1) := by decide +kernel
theorem d_M_rowsBy_85 : decode b_M_rowsBy 85 = .ok (.dup2, 1) := by decide +kernel
theorem d_M_rowsBy_86 : decode b_M_rowsBy 86 = .ok (.iaload, 1) := by decide +kernel
theorem d_M_rowsBy_87 : decode b_M_rowsBy 87 = .ok (.iload 4, 2) := by decide +kernel
theorem d_M_rowsBy_89 : decode b_M_rowsBy 89 = .ok (.iload 5, 2) := by decide +kernel
theorem d_M_rowsBy_91 : decode b_M_rowsBy 91 = .ok (.invokestatic 81, 3) := by decide +kernel
theorem d_M_rowsBy_94 : decode b_M_rowsBy 94 = .ok (.ifCond .eq 12, 3) := by decide +kernel
theorem d_M_rowsBy_97 : decode b_M_rowsBy 97 = .ok (.aload_n 0, 1) := by decide +kernel
theorem d_M_rowsBy_98 : decode b_M_rowsBy 98 = .ok (.getfield 17, 3) := by decide +kernel
theorem d_M_rowsBy_101 : decode b_M_rowsBy 101 = .ok (.iload_n 3, 1) := by decide +kernel
theorem d_M_rowsBy_102 : decode b_M_rowsBy 102 = .ok (.iaload, 1) := by decide +kernel
theorem d_M_rowsBy_103 : decode b_M_rowsBy 103 = .ok (.goto 4, 3) := by decide +kernel
theorem d_M_rowsBy_106 : decode b_M_rowsBy 106 = .ok (.iconst 0, 1) := by decide +kernel
theorem d_M_rowsBy_107 : decode b_M_rowsBy 107 = .ok (.iadd, 1) := by decide +kernel
theorem d_M_rowsBy_108 : decode b_M_rowsBy 108 = .ok (.iastore, 1) := by decide +kernel
theorem d_M_rowsBy_109 : decode b_M_rowsBy 109 = .ok (.iinc 5 1, 3) := by decide +kernel
theorem d_M_rowsBy_112 : decode b_M_rowsBy 112 = .ok (.goto (-46), 3) := by decide +kernel
theorem d_M_rowsBy_115 : decode b_M_rowsBy 115 = .ok (.iinc 3 1, 3) := by decide +kernel
theorem d_M_rowsBy_118 : decode b_M_rowsBy 118 = .ok (.goto (-85), 3) := by decide +kernel
theorem d_M_rowsBy_121 : decode b_M_rowsBy 121 = .ok (.aload_n 0, 1) := by decide +kernel
theorem d_M_rowsBy_122 : decode b_M_rowsBy 122 = .ok (.getfield 17, 3) := by decide +kernel
theorem d_M_rowsBy_125 : decode b_M_rowsBy 125 = .ok (.aload_n 0, 1) := by decide +kernel
theorem d_M_rowsBy_126 : decode b_M_rowsBy 126 = .ok (.invokevirtual 110, 3) := by decide +kernel
theorem d_M_rowsBy_129 : decode b_M_rowsBy 129 = .ok (.iaload, 1) := by decide +kernel
theorem d_M_rowsBy_130 : decode b_M_rowsBy 130 = .ok (.ireturn, 1) := by decide +kernel
theorem d_M_takenNow_0 : decode b_M_takenNow 0 = .ok (.iconst 0, 1) := by decide +kernel
theorem d_M_takenNow_1 : decode b_M_takenNow 1 = .ok (.istore_n 1, 1) := by decide +kernel
theorem d_M_takenNow_2 : decode b_M_takenNow 2 = .ok (.iconst 0, 1) := by decide +kernel
theorem d_M_takenNow_3 : decode b_M_takenNow 3 = .ok (.istore_n 2, 1) := by decide +kernel
theorem d_M_takenNow_4 : decode b_M_takenNow 4 = .ok (.iload_n 2, 1) := by decide +kernel
theorem d_M_takenNow_5 : decode b_M_takenNow 5 = .ok (.aload_n 0, 1) := by decide +kernel
theorem d_M_takenNow_6 : decode b_M_takenNow 6 = .ok (.getfield 93, 3) := by decide +kernel
theorem d_M_takenNow_9 : decode b_M_takenNow 9 = .ok (.if_icmp .ge 32, 3) := by decide +kernel
theorem d_M_takenNow_12 : decode b_M_takenNow 12 = .ok (.iload_n 1, 1) := by decide +kernel
theorem d_M_takenNow_13 : decode b_M_takenNow 13 = .ok (.aload_n 0, 1) := by decide +kernel
theorem d_M_takenNow_14 : decode b_M_takenNow 14 = .ok (.iload_n 1, 1) := by decide +kernel
theorem d_M_takenNow_15 : decode b_M_takenNow 15 = .ok (.iconst 1, 1) := by decide +kernel
theorem d_M_takenNow_16 : decode b_M_takenNow 16 = .ok (.iload_n 2, 1) := by decide +kernel
theorem d_M_takenNow_17 : decode b_M_takenNow 17 = .ok (.ishl, 1) := by decide +kernel
theorem d_M_takenNow_18 : decode b_M_takenNow 18 = .ok (.ior, 1) := by decide +kernel
theorem d_M_takenNow_19 : decode b_M_takenNow 19 = .ok (.iconst 0, 1) := by decide +kernel
theorem d_M_takenNow_20 : decode b_M_takenNow 20 = .ok (.invokevirtual 117, 3) := by decide +kernel
theorem d_M_takenNow_23 : decode b_M_takenNow 23 = .ok (.ifCond .le 9, 3) := by decide +kernel
theorem d_M_takenNow_26 : decode b_M_takenNow 26 = .ok (.iconst 1, 1) := by decide +kernel
theorem d_M_takenNow_27 : decode b_M_takenNow 27 = .ok (.iload_n 2, 1) := by decide +kernel
theorem d_M_takenNow_28 : decode b_M_takenNow 28 = .ok (.ishl, 1) := by decide +kernel
theorem d_M_takenNow_29 : decode b_M_takenNow 29 = .ok (.goto 4, 3) := by decide +kernel
theorem d_M_takenNow_32 : decode b_M_takenNow 32 = .ok (.iconst 0, 1) := by decide +kernel
theorem d_M_takenNow_33 : decode b_M_takenNow 33 = .ok (.ior, 1) := by decide +kernel
theorem d_M_takenNow_34 : decode b_M_takenNow 34 = .ok (.istore_n 1, 1) := by decide +kernel
theorem d_M_takenNow_35 : decode b_M_takenNow 35 = .ok (.iinc 2 1, 3) := by decide +kernel
theorem d_M_takenNow_38 : decode b_M_takenNow 38 = .ok (.goto (-34), 3) := by decide +kernel
theorem d_M_takenNow_41 : decode b_M_takenNow 41 = .ok (.iload_n 1, 1) := by decide +kernel
theorem d_M_takenNow_42 : decode b_M_takenNow 42 = .ok (.ireturn, 1) := by decide +kernel
theorem d_M_adds_0 : decode b_M_adds 0 = .ok (.iload_n 1, 1) := by decide +kernel
theorem d_M_adds_1 : decode b_M_adds 1 = .ok (.iconst 0, 1) := by decide +kernel
theorem d_M_adds_2 : decode b_M_adds 2 = .ok (.sipush 255, 3) := by decide +kernel
theorem d_M_adds_5 : decode b_M_adds 5 = .ok (.invokestatic 85, 3) := by decide +kernel
theorem d_M_adds_8 : decode b_M_adds 8 = .ok (.ifCond .eq 11, 3) := by decide +kernel
theorem d_M_adds_11 : decode b_M_adds 11 = .ok (.iload_n 1, 1) := by decide +kernel
theorem d_M_adds_12 : decode b_M_adds 12 = .ok (.invokestatic 89, 3) := by decide +kernel
theorem d_M_adds_15 : decode b_M_adds 15 = .ok (.iconst 2, 1) := by decide +kernel
theorem d_M_adds_16 : decode b_M_adds 16 = .ok (.if_icmp .ge 6, 3) := by decide +kernel
theorem d_M_adds_19 : decode b_M_adds 19 = .ok (.bipush (-2), 2) := by decide +kernel
theorem d_M_adds_21 : decode b_M_adds 21 = .ok (.ireturn, 1) := by decide +kernel
theorem d_M_adds_22 : decode b_M_adds 22 = .ok (.aload_n 0, 1) := by decide +kernel
theorem d_M_adds_23 : decode b_M_adds 23 = .ok (.getfield 93, 3) := by decide +kernel
theorem d_M_adds_26 : decode b_M_adds 26 = .ok (.bipush 10, 2) := by decide +kernel
theorem d_M_adds_28 : decode b_M_adds 28 = .ok (.if_icmp .ne 6, 3) := by decide +kernel
theorem d_M_adds_31 : decode b_M_adds 31 = .ok (.bipush (-4), 2) := by decide +kernel
theorem d_M_adds_33 : decode b_M_adds 33 = .ok (.ireturn, 1) := by decide +kernel
theorem d_M_adds_34 : decode b_M_adds 34 = .ok (.aload_n 0, 1) := by decide +kernel
theorem d_M_adds_35 : decode b_M_adds 35 = .ok (.getfield 13, 3) := by decide +kernel
theorem d_M_adds_38 : decode b_M_adds 38 = .ok (.aload_n 0, 1) := by decide +kernel
theorem d_M_adds_39 : decode b_M_adds 39 = .ok (.getfield 93, 3) := by decide +kernel
theorem d_M_adds_42 : decode b_M_adds 42 = .ok (.iload_n 1, 1) := by decide +kernel
theorem d_M_adds_43 : decode b_M_adds 43 = .ok (.iastore, 1) := by decide +kernel
theorem d_M_adds_44 : decode b_M_adds 44 = .ok (.aload_n 0, 1) := by decide +kernel
theorem d_M_adds_45 : decode b_M_adds 45 = .ok (.dup, 1) := by decide +kernel
theorem d_M_adds_46 : decode b_M_adds 46 = .ok (.getfield 93, 3) := by decide +kernel
theorem d_M_adds_49 : decode b_M_adds 49 = .ok (.iconst 1, 1) := by decide +kernel
theorem d_M_adds_50 : decode b_M_adds 50 = .ok (.iadd, 1) := by decide +kernel
theorem d_M_adds_51 : decode b_M_adds 51 = .ok (.putfield 93, 3) := by decide +kernel
theorem d_M_adds_54 : decode b_M_adds 54 = .ok (.aload_n 0, 1) := by decide +kernel
theorem d_M_adds_55 : decode b_M_adds 55 = .ok (.invokevirtual 96, 3) := by decide +kernel
theorem d_M_adds_58 : decode b_M_adds 58 = .ok (.aload_n 0, 1) := by decide +kernel
theorem d_M_adds_59 : decode b_M_adds 59 = .ok (.getfield 93, 3) := by decide +kernel
theorem d_M_adds_62 : decode b_M_adds 62 = .ok (.iconst 1, 1) := by decide +kernel
theorem d_M_adds_63 : decode b_M_adds 63 = .ok (.isub, 1) := by decide +kernel
theorem d_M_adds_64 : decode b_M_adds 64 = .ok (.invokestatic 81, 3) := by decide +kernel
theorem d_M_adds_67 : decode b_M_adds 67 = .ok (.ifCond .eq 7, 3) := by decide +kernel
theorem d_M_adds_70 : decode b_M_adds 70 = .ok (.iconst 1, 1) := by decide +kernel
theorem d_M_adds_71 : decode b_M_adds 71 = .ok (.goto 4, 3) := by decide +kernel
theorem d_M_adds_74 : decode b_M_adds 74 = .ok (.iconst 0, 1) := by decide +kernel
theorem d_M_adds_75 : decode b_M_adds 75 = .ok (.ireturn, 1) := by decide +kernel
theorem d_M_group_0 : decode b_M_group 0 = .ok (.aload_n 0, 1) := by decide +kernel
theorem d_M_group_1 : decode b_M_group 1 = .ok (.iload_n 1, 1) := by decide +kernel
theorem d_M_group_2 : decode b_M_group 2 = .ok (.invokevirtual 100, 3) := by decide +kernel
theorem d_M_group_5 : decode b_M_group 5 = .ok (.ireturn, 1) := by decide +kernel
theorem d_M_back_0 : decode b_M_back 0 = .ok (.aload_n 0, 1) := by decide +kernel
theorem d_M_back_1 : decode b_M_back 1 = .ok (.getfield 93, 3) := by decide +kernel
theorem d_M_back_4 : decode b_M_back 4 = .ok (.ifCond .ne 6, 3) := by decide +kernel
theorem d_M_back_7 : decode b_M_back 7 = .ok (.bipush (-3), 2) := by decide +kernel
theorem d_M_back_9 : decode b_M_back 9 = .ok (.ireturn, 1) := by decide +kernel
theorem d_M_back_10 : decode b_M_back 10 = .ok (.aload_n 0, 1) := by decide +kernel
theorem d_M_back_11 : decode b_M_back 11 = .ok (.dup, 1) := by decide +kernel
theorem d_M_back_12 : decode b_M_back 12 = .ok (.getfield 93, 3) := by decide +kernel
theorem d_M_back_15 : decode b_M_back 15 = .ok (.iconst 1, 1) := by decide +kernel
theorem d_M_back_16 : decode b_M_back 16 = .ok (.isub, 1) := by decide +kernel
theorem d_M_back_17 : decode b_M_back 17 = .ok (.putfield 93, 3) := by decide +kernel
theorem d_M_back_20 : decode b_M_back 20 = .ok (.aload_n 0, 1) := by decide +kernel
theorem d_M_back_21 : decode b_M_back 21 = .ok (.getfield 93, 3) := by decide +kernel
theorem d_M_back_24 : decode b_M_back 24 = .ok (.ireturn, 1) := by decide +kernel
theorem d_M_isSheet_0 : decode b_M_isSheet 0 = .ok (.iload_n 0, 1) := by decide +kernel
theorem d_M_isSheet_1 : decode b_M_isSheet 1 = .ok (.iconst 0, 1) := by decide +kernel
theorem d_M_isSheet_2 : decode b_M_isSheet 2 = .ok (.iconst 3, 1) := by decide +kernel
theorem d_M_isSheet_3 : decode b_M_isSheet 3 = .ok (.invokestatic 85, 3) := by decide +kernel
theorem d_M_isSheet_6 : decode b_M_isSheet 6 = .ok (.ireturn, 1) := by decide +kernel
theorem d_M_meets_0 : decode b_M_meets 0 = .ok (.aload_n 0, 1) := by decide +kernel
theorem d_M_meets_1 : decode b_M_meets 1 = .ok (.iload_n 1, 1) := by decide +kernel
theorem d_M_meets_2 : decode b_M_meets 2 = .ok (.putfield 248, 3) := by decide +kernel
theorem d_M_meets_5 : decode b_M_meets 5 = .ok (.bipush (-10), 2) := by decide +kernel
theorem d_M_meets_7 : decode b_M_meets 7 = .ok (.iload_n 1, 1) := by decide +kernel
theorem d_M_meets_8 : decode b_M_meets 8 = .ok (.isub, 1) := by decide +kernel
theorem d_M_meets_9 : decode b_M_meets 9 = .ok (.ireturn, 1) := by decide +kernel
theorem d_M_read_0 : decode b_M_read 0 = .ok (.iload_n 1, 1) := by decide +kernel
theorem d_M_read_1 : decode b_M_read 1 = .ok (.invokestatic 103, 3) := by decide +kernel
theorem d_M_read_4 : decode b_M_read 4 = .ok (.ifCond .ne 6, 3) := by decide +kernel
theorem d_M_read_7 : decode b_M_read 7 = .ok (.bipush (-2), 2) := by decide +kernel
theorem d_M_read_9 : decode b_M_read 9 = .ok (.ireturn, 1) := by decide +kernel
theorem d_M_read_10 : decode b_M_read 10 = .ok (.aload_n 0, 1) := by decide +kernel
theorem d_M_read_11 : decode b_M_read 11 = .ok (.getfield 65, 3) := by decide +kernel
theorem d_M_read_14 : decode b_M_read 14 = .ok (.iload_n 1, 1) := by decide +kernel
theorem d_M_read_15 : decode b_M_read 15 = .ok (.baload, 1) := by decide +kernel
theorem d_M_read_16 : decode b_M_read 16 = .ok (.ifCond .ne 9, 3) := by decide +kernel
theorem d_M_read_19 : decode b_M_read 19 = .ok (.aload_n 0, 1) := by decide +kernel
theorem d_M_read_20 : decode b_M_read 20 = .ok (.iconst 1, 1) := by decide +kernel
theorem d_M_read_21 : decode b_M_read 21 = .ok (.invokevirtual 107, 3) := by decide +kernel
theorem d_M_read_24 : decode b_M_read 24 = .ok (.ireturn, 1) := by decide +kernel
theorem d_M_read_25 : decode b_M_read 25 = .ok (.iconst 0, 1) := by decide +kernel
theorem d_M_read_26 : decode b_M_read 26 = .ok (.istore_n 2, 1) := by decide +kernel
theorem d_M_read_27 : decode b_M_read 27 = .ok (.iload_n 2, 1) := by decide +kernel
theorem d_M_read_28 : decode b_M_read 28 = .ok (.aload_n 0, 1) := by decide +kernel
theorem d_M_read_29 : decode b_M_read 29 = .ok (.getfield 72, 3) := by decide +kernel
theorem d_M_read_32 : decode b_M_read 32 = .ok (.iload_n 1, 1) := by decide +kernel
theorem d_M_read_33 : decode b_M_read 33 = .ok (.iaload, 1) := by decide +kernel
theorem d_M_read_34 : decode b_M_read 34 = .ok (.if_icmp .ge 27, 3) := by decide +kernel
theorem d_M_read_37 : decode b_M_read 37 = .ok (.aload_n 0, 1) := by decide +kernel
theorem d_M_read_38 : decode b_M_read 38 = .ok (.aload_n 0, 1) := by decide +kernel
theorem d_M_read_39 : decode b_M_read 39 = .ok (.getfield 75, 3) := by decide +kernel
theorem d_M_read_42 : decode b_M_read 42 = .ok (.bipush 60, 2) := by decide +kernel
theorem d_M_read_44 : decode b_M_read 44 = .ok (.iload_n 1, 1) := by decide +kernel
theorem d_M_read_45 : decode b_M_read 45 = .ok (.imul, 1) := by decide +kernel
theorem d_M_read_46 : decode b_M_read 46 = .ok (.iload_n 2, 1) := by decide +kernel
theorem d_M_read_47 : decode b_M_read 47 = .ok (.iadd, 1) := by decide +kernel
theorem d_M_read_48 : decode b_M_read 48 = .ok (.iaload, 1) := by decide +kernel
theorem d_M_read_49 : decode b_M_read 49 = .ok (.invokevirtual 100, 3) := by decide +kernel
theorem d_M_read_52 : decode b_M_read 52 = .ok (.ifCond .lt 9, 3) := by decide +kernel
theorem d_M_read_55 : decode b_M_read 55 = .ok (.iinc 2 1, 3) := by decide +kernel
theorem d_M_read_58 : decode b_M_read 58 = .ok (.goto (-31), 3) := by decide +kernel
theorem d_M_read_61 : decode b_M_read 61 = .ok (.iload_n 2, 1) := by decide +kernel
theorem d_M_read_62 : decode b_M_read 62 = .ok (.ireturn, 1) := by decide +kernel
theorem d_M_isGroup_0 : decode b_M_isGroup 0 = .ok (.iload_n 1, 1) := by decide +kernel
theorem d_M_isGroup_1 : decode b_M_isGroup 1 = .ok (.iconst 0, 1) := by decide +kernel
theorem d_M_isGroup_2 : decode b_M_isGroup 2 = .ok (.aload_n 0, 1) := by decide +kernel
theorem d_M_isGroup_3 : decode b_M_isGroup 3 = .ok (.getfield 93, 3) := by decide +kernel
theorem d_M_isGroup_6 : decode b_M_isGroup 6 = .ok (.iconst 1, 1) := by decide +kernel
theorem d_M_isGroup_7 : decode b_M_isGroup 7 = .ok (.isub, 1) := by decide +kernel
theorem d_M_isGroup_8 : decode b_M_isGroup 8 = .ok (.invokestatic 85, 3) := by decide +kernel
theorem d_M_isGroup_11 : decode b_M_isGroup 11 = .ok (.ireturn, 1) := by decide +kernel
theorem d_M_taken_0 : decode b_M_taken 0 = .ok (.aload_n 0, 1) := by decide +kernel
theorem d_M_taken_1 : decode b_M_taken 1 = .ok (.iload_n 1, 1) := by decide +kernel
theorem d_M_taken_2 : decode b_M_taken 2 = .ok (.invokevirtual 121, 3) := by decide +kernel
theorem d_M_taken_5 : decode b_M_taken 5 = .ok (.ifCond .eq 14, 3) := by decide +kernel
theorem d_M_taken_8 : decode b_M_taken 8 = .ok (.aload_n 0, 1) := by decide +kernel
theorem d_M_taken_9 : decode b_M_taken 9 = .ok (.invokevirtual 96, 3) := by decide +kernel
theorem d_M_taken_12 : decode b_M_taken 12 = .ok (.iload_n 1, 1) := by decide +kernel
theorem d_M_taken_13 : decode b_M_taken 13 = .ok (.ishr, 1) := by decide +kernel
theorem d_M_taken_14 : decode b_M_taken 14 = .ok (.iconst 1, 1) := by decide +kernel
theorem d_M_taken_15 : decode b_M_taken 15 = .ok (.iand, 1) := by decide +kernel
theorem d_M_taken_16 : decode b_M_taken 16 = .ok (.goto 5, 3) := by decide +kernel
theorem d_M_taken_19 : decode b_M_taken 19 = .ok (.bipush (-2), 2) := by decide +kernel
theorem d_M_taken_21 : decode b_M_taken 21 = .ok (.ireturn, 1) := by decide +kernel
theorem d_M_reasonOf_0 : decode b_M_reasonOf 0 = .ok (.aload_n 0, 1) := by decide +kernel
theorem d_M_reasonOf_1 : decode b_M_reasonOf 1 = .ok (.invokevirtual 96, 3) := by decide +kernel
theorem d_M_reasonOf_4 : decode b_M_reasonOf 4 = .ok (.istore_n 2, 1) := by decide +kernel
theorem d_M_reasonOf_5 : decode b_M_reasonOf 5 = .ok (.iload_n 2, 1) := by decide +kernel
theorem d_M_reasonOf_6 : decode b_M_reasonOf 6 = .ok (.iload_n 1, 1) := by decide +kernel
theorem d_M_reasonOf_7 : decode b_M_reasonOf 7 = .ok (.invokestatic 81, 3) := by decide +kernel
theorem d_M_reasonOf_10 : decode b_M_reasonOf 10 = .ok (.ifCond .eq 6, 3) := by decide +kernel
theorem d_M_reasonOf_13 : decode b_M_reasonOf 13 = .ok (.bipush (-3), 2) := by decide +kernel
theorem d_M_reasonOf_15 : decode b_M_reasonOf 15 = .ok (.ireturn, 1) := by decide +kernel
theorem d_M_reasonOf_16 : decode b_M_reasonOf 16 = .ok (.iload_n 2, 1) := by decide +kernel
theorem d_M_reasonOf_17 : decode b_M_reasonOf 17 = .ok (.iconst 1, 1) := by decide +kernel
theorem d_M_reasonOf_18 : decode b_M_reasonOf 18 = .ok (.iload_n 1, 1) := by decide +kernel
theorem d_M_reasonOf_19 : decode b_M_reasonOf 19 = .ok (.ishl, 1) := by decide +kernel
theorem d_M_reasonOf_20 : decode b_M_reasonOf 20 = .ok (.iconst 1, 1) := by decide +kernel
theorem d_M_reasonOf_21 : decode b_M_reasonOf 21 = .ok (.isub, 1) := by decide +kernel
theorem d_M_reasonOf_22 : decode b_M_reasonOf 22 = .ok (.iand, 1) := by decide +kernel
theorem d_M_reasonOf_23 : decode b_M_reasonOf 23 = .ok (.istore_n 3, 1) := by decide +kernel
theorem d_M_reasonOf_24 : decode b_M_reasonOf 24 = .ok (.iconst 0, 1) := by decide +kernel
theorem d_M_reasonOf_25 : decode b_M_reasonOf 25 = .ok (.istore 4, 2) := by decide +kernel
theorem d_M_reasonOf_27 : decode b_M_reasonOf 27 = .ok (.iload 4, 2) := by decide +kernel
theorem d_M_reasonOf_29 : decode b_M_reasonOf 29 = .ok (.iload_n 1, 1) := by decide +kernel
theorem d_M_reasonOf_30 : decode b_M_reasonOf 30 = .ok (.if_icmp .ge 49, 3) := by decide +kernel
theorem d_M_reasonOf_33 : decode b_M_reasonOf 33 = .ok (.iload_n 3, 1) := by decide +kernel
theorem d_M_reasonOf_34 : decode b_M_reasonOf 34 = .ok (.iconst 1, 1) := by decide +kernel
theorem d_M_reasonOf_35 : decode b_M_reasonOf 35 = .ok (.iload 4, 2) := by decide +kernel
theorem d_M_reasonOf_37 : decode b_M_reasonOf 37 = .ok (.ishl, 1) := by decide +kernel
theorem d_M_reasonOf_38 : decode b_M_reasonOf 38 = .ok (.iconst (-1), 1) := by decide +kernel
theorem d_M_reasonOf_39 : decode b_M_reasonOf 39 = .ok (.ixor, 1) := by decide +kernel
theorem d_M_reasonOf_40 : decode b_M_reasonOf 40 = .ok (.iand, 1) := by decide +kernel
theorem d_M_reasonOf_41 : decode b_M_reasonOf 41 = .ok (.istore 5, 2) := by decide +kernel
theorem d_M_reasonOf_43 : decode b_M_reasonOf 43 = .ok (.iload_n 3, 1) := by decide +kernel
theorem d_M_reasonOf_44 : decode b_M_reasonOf 44 = .ok (.iload 4, 2) := by decide +kernel
theorem d_M_reasonOf_46 : decode b_M_reasonOf 46 = .ok (.invokestatic 81, 3) := by decide +kernel
theorem d_M_reasonOf_49 : decode b_M_reasonOf 49 = .ok (.ifCond .eq 22, 3) := by decide +kernel
theorem d_M_reasonOf_52 : decode b_M_reasonOf 52 = .ok (.aload_n 0, 1) := by decide +kernel
theorem d_M_reasonOf_53 : decode b_M_reasonOf 53 = .ok (.iload 5, 2) := by decide +kernel
theorem d_M_reasonOf_55 : decode b_M_reasonOf 55 = .ok (.iconst 1, 1) := by decide +kernel
theorem d_M_reasonOf_56 : decode b_M_reasonOf 56 = .ok (.iload_n 1, 1) := by decide +kernel
theorem d_M_reasonOf_57 : decode b_M_reasonOf 57 = .ok (.ishl, 1) := by decide +kernel
theorem d_M_reasonOf_58 : decode b_M_reasonOf 58 = .ok (.ior, 1) := by decide +kernel
theorem d_M_reasonOf_59 : decode b_M_reasonOf 59 = .ok (.iconst 0, 1) := by decide +kernel
theorem d_M_reasonOf_60 : decode b_M_reasonOf 60 = .ok (.invokevirtual 117, 3) := by decide +kernel
theorem d_M_reasonOf_63 : decode b_M_reasonOf 63 = .ok (.ifCond .ne 8, 3) := by decide +kernel
theorem d_M_reasonOf_66 : decode b_M_reasonOf 66 = .ok (.iload 5, 2) := by decide +kernel
theorem d_M_reasonOf_68 : decode b_M_reasonOf 68 = .ok (.goto 4, 3) := by decide +kernel
theorem d_M_reasonOf_71 : decode b_M_reasonOf 71 = .ok (.iload_n 3, 1) := by decide +kernel
theorem d_M_reasonOf_72 : decode b_M_reasonOf 72 = .ok (.istore_n 3, 1) := by decide +kernel
theorem d_M_reasonOf_73 : decode b_M_reasonOf 73 = .ok (.iinc 4 1, 3) := by decide +kernel
theorem d_M_reasonOf_76 : decode b_M_reasonOf 76 = .ok (.goto (-49), 3) := by decide +kernel
theorem d_M_reasonOf_79 : decode b_M_reasonOf 79 = .ok (.iload_n 3, 1) := by decide +kernel
theorem d_M_reasonOf_80 : decode b_M_reasonOf 80 = .ok (.ireturn, 1) := by decide +kernel
theorem d_M_reason_0 : decode b_M_reason 0 = .ok (.aload_n 0, 1) := by decide +kernel
theorem d_M_reason_1 : decode b_M_reason 1 = .ok (.iload_n 1, 1) := by decide +kernel
theorem d_M_reason_2 : decode b_M_reason 2 = .ok (.invokevirtual 121, 3) := by decide +kernel
theorem d_M_reason_5 : decode b_M_reason 5 = .ok (.ifCond .eq 11, 3) := by decide +kernel
theorem d_M_reason_8 : decode b_M_reason 8 = .ok (.aload_n 0, 1) := by decide +kernel
theorem d_M_reason_9 : decode b_M_reason 9 = .ok (.iload_n 1, 1) := by decide +kernel
theorem d_M_reason_10 : decode b_M_reason 10 = .ok (.invokevirtual 124, 3) := by decide +kernel
theorem d_M_reason_13 : decode b_M_reason 13 = .ok (.goto 5, 3) := by decide +kernel
theorem d_M_reason_16 : decode b_M_reason 16 = .ok (.bipush (-2), 2) := by decide +kernel
theorem d_M_reason_18 : decode b_M_reason 18 = .ok (.ireturn, 1) := by decide +kernel
theorem d_M_manyNow_0 : decode b_M_manyNow 0 = .ok (.aload_n 0, 1) := by decide +kernel
theorem d_M_manyNow_1 : decode b_M_manyNow 1 = .ok (.aload_n 0, 1) := by decide +kernel
theorem d_M_manyNow_2 : decode b_M_manyNow 2 = .ok (.invokevirtual 96, 3) := by decide +kernel
theorem d_M_manyNow_5 : decode b_M_manyNow 5 = .ok (.iconst 0, 1) := by decide +kernel
theorem d_M_manyNow_6 : decode b_M_manyNow 6 = .ok (.invokevirtual 117, 3) := by decide +kernel
theorem d_M_manyNow_9 : decode b_M_manyNow 9 = .ok (.ireturn, 1) := by decide +kernel
theorem d_M_many__0 : decode b_M_many_ 0 = .ok (.aload_n 0, 1) := by decide +kernel
theorem d_M_many__1 : decode b_M_many_ 1 = .ok (.invokevirtual 127, 3) := by decide +kernel
theorem d_M_many__4 : decode b_M_many_ 4 = .ok (.i2l, 1) := by decide +kernel
theorem d_M_many__5 : decode b_M_many_ 5 = .ok (.lreturn, 1) := by decide +kernel
theorem d_M_findsGo_0 : decode b_M_findsGo 0 = .ok (.aload_n 0, 1) := by decide +kernel
theorem d_M_findsGo_1 : decode b_M_findsGo 1 = .ok (.invokevirtual 96, 3) := by decide +kernel
theorem d_M_findsGo_4 : decode b_M_findsGo 4 = .ok (.istore_n 1, 1) := by decide +kernel
theorem d_M_findsGo_5 : decode b_M_findsGo 5 = .ok (.aload_n 0, 1) := by decide +kernel
theorem d_M_findsGo_6 : decode b_M_findsGo 6 = .ok (.iload_n 1, 1) := by decide +kernel
theorem d_M_findsGo_7 : decode b_M_findsGo 7 = .ok (.iconst 0, 1) := by decide +kernel
theorem d_M_findsGo_8 : decode b_M_findsGo 8 = .ok (.invokevirtual 117, 3) := by decide +kernel
theorem d_M_findsGo_11 : decode b_M_findsGo 11 = .ok (.pop, 1) := by decide +kernel
theorem d_M_findsGo_12 : decode b_M_findsGo 12 = .ok (.aload_n 0, 1) := by decide +kernel
theorem d_M_findsGo_13 : decode b_M_findsGo 13 = .ok (.invokevirtual 110, 3) := by decide +kernel
theorem d_M_findsGo_16 : decode b_M_findsGo 16 = .ok (.istore_n 2, 1) := by decide +kernel
theorem d_M_findsGo_17 : decode b_M_findsGo 17 = .ok (.iload_n 2, 1) := by decide +kernel
theorem d_M_findsGo_18 : decode b_M_findsGo 18 = .ok (.ifCond .lt 118, 3) := by decide +kernel
theorem d_M_findsGo_21 : decode b_M_findsGo 21 = .ok (.aload_n 0, 1) := by decide +kernel
theorem d_M_findsGo_22 : decode b_M_findsGo 22 = .ok (.getfield 17, 3) := by decide +kernel
theorem d_M_findsGo_25 : decode b_M_findsGo 25 = .ok (.iload_n 2, 1) := by decide +kernel
theorem d_M_findsGo_26 : decode b_M_findsGo 26 = .ok (.iaload, 1) := by decide +kernel
theorem d_M_findsGo_27 : decode b_M_findsGo 27 = .ok (.ifCond .ne 7, 3) := by decide +kernel
theorem d_M_findsGo_30 : decode b_M_findsGo 30 = .ok (.iconst 0, 1) := by decide +kernel
theorem d_M_findsGo_31 : decode b_M_findsGo 31 = .ok (.goto 10, 3) := by decide +kernel
theorem d_M_findsGo_34 : decode b_M_findsGo 34 = .ok (.aload_n 0, 1) := by decide +kernel
theorem d_M_findsGo_35 : decode b_M_findsGo 35 = .ok (.iload_n 2, 1) := by decide +kernel
theorem d_M_findsGo_36 : decode b_M_findsGo 36 = .ok (.iload_n 1, 1) := by decide +kernel
theorem d_M_findsGo_37 : decode b_M_findsGo 37 = .ok (.iconst 0, 1) := by decide +kernel
theorem d_M_findsGo_38 : decode b_M_findsGo 38 = .ok (.invokevirtual 113, 3) := by decide +kernel
theorem d_M_findsGo_41 : decode b_M_findsGo 41 = .ok (.istore_n 3, 1) := by decide +kernel
theorem d_M_findsGo_42 : decode b_M_findsGo 42 = .ok (.aload_n 0, 1) := by decide +kernel
theorem d_M_findsGo_43 : decode b_M_findsGo 43 = .ok (.getfield 20, 3) := by decide +kernel
theorem d_M_findsGo_46 : decode b_M_findsGo 46 = .ok (.iload_n 2, 1) := by decide +kernel
theorem d_M_findsGo_47 : decode b_M_findsGo 47 = .ok (.iconst 0, 1) := by decide +kernel
theorem d_M_findsGo_48 : decode b_M_findsGo 48 = .ok (.iastore, 1) := by decide +kernel
theorem d_M_findsGo_49 : decode b_M_findsGo 49 = .ok (.aload_n 0, 1) := by decide +kernel
theorem d_M_findsGo_50 : decode b_M_findsGo 50 = .ok (.getfield 23, 3) := by decide +kernel
theorem d_M_findsGo_53 : decode b_M_findsGo 53 = .ok (.iload_n 2, 1) := by decide +kernel
theorem d_M_findsGo_54 : decode b_M_findsGo 54 = .ok (.iload_n 2, 1) := by decide +kernel
theorem d_M_findsGo_55 : decode b_M_findsGo 55 = .ok (.aload_n 0, 1) := by decide +kernel
theorem d_M_findsGo_56 : decode b_M_findsGo 56 = .ok (.invokevirtual 110, 3) := by decide +kernel
theorem d_M_findsGo_59 : decode b_M_findsGo 59 = .ok (.if_icmp .ne 7, 3) := by decide +kernel
theorem d_M_findsGo_62 : decode b_M_findsGo 62 = .ok (.iconst 1, 1) := by decide +kernel
theorem d_M_findsGo_63 : decode b_M_findsGo 63 = .ok (.goto 4, 3) := by decide +kernel
theorem d_M_findsGo_66 : decode b_M_findsGo 66 = .ok (.iconst 0, 1) := by decide +kernel
theorem d_M_findsGo_67 : decode b_M_findsGo 67 = .ok (.iastore, 1) := by decide +kernel
theorem d_M_findsGo_68 : decode b_M_findsGo 68 = .ok (.iconst 0, 1) := by decide +kernel
theorem d_M_findsGo_69 : decode b_M_findsGo 69 = .ok (.istore 4, 2) := by decide +kernel
theorem d_M_findsGo_71 : decode b_M_findsGo 71 = .ok (.iload 4, 2) := by decide +kernel
theorem d_M_findsGo_73 : decode b_M_findsGo 73 = .ok (.aload_n 0, 1) := by decide +kernel
theorem d_M_findsGo_74 : decode b_M_findsGo 74 = .ok (.getfield 7, 3) := by decide +kernel
theorem d_M_findsGo_77 : decode b_M_findsGo 77 = .ok (.if_icmp .ge 53, 3) := by decide +kernel
theorem d_M_findsGo_80 : decode b_M_findsGo 80 = .ok (.iload_n 3, 1) := by decide +kernel
theorem d_M_findsGo_81 : decode b_M_findsGo 81 = .ok (.iload 4, 2) := by decide +kernel
theorem d_M_findsGo_83 : decode b_M_findsGo 83 = .ok (.invokestatic 81, 3) := by decide +kernel
theorem d_M_findsGo_86 : decode b_M_findsGo 86 = .ok (.ifCond .eq 38, 3) := by decide +kernel
theorem d_M_findsGo_89 : decode b_M_findsGo 89 = .ok (.aload_n 0, 1) := by decide +kernel
theorem d_M_findsGo_90 : decode b_M_findsGo 90 = .ok (.getfield 23, 3) := by decide +kernel
theorem d_M_findsGo_93 : decode b_M_findsGo 93 = .ok (.iload_n 2, 1) := by decide +kernel
theorem d_M_findsGo_94 : decode b_M_findsGo 94 = .ok (.iconst 1, 1) := by decide +kernel
theorem d_M_findsGo_95 : decode b_M_findsGo 95 = .ok (.iload 4, 2) := by decide +kernel
theorem d_M_findsGo_97 : decode b_M_findsGo 97 = .ok (.ishl, 1) := by decide +kernel
theorem d_M_findsGo_98 : decode b_M_findsGo 98 = .ok (.ior, 1) := by decide +kernel
theorem d_M_findsGo_99 : decode b_M_findsGo 99 = .ok (.iaload, 1) := by decide +kernel
theorem d_M_findsGo_100 : decode b_M_findsGo 100 = .ok (.iconst 1, 1) := by decide +kernel
theorem d_M_findsGo_101 : decode b_M_findsGo 101 = .ok (.if_icmp .ne 23, 3) := by decide +kernel
theorem d_M_findsGo_104 : decode b_M_findsGo 104 = .ok (.aload_n 0, 1) := by decide +kernel
theorem d_M_findsGo_105 : decode b_M_findsGo 105 = .ok (.getfield 20, 3) := by decide +kernel
theorem d_M_findsGo_108 : decode b_M_findsGo 108 = .ok (.iload_n 2, 1) := by decide +kernel
theorem d_M_findsGo_109 : decode b_M_findsGo 109 = .ok (.dup2, 1) := by decide +kernel
theorem d_M_findsGo_110 : decode b_M_findsGo 110 = .ok (.iaload, 1) := by decide +kernel
theorem d_M_findsGo_111 : decode b_M_findsGo 111 = .ok (.iconst 1, 1) := by decide +kernel
theorem d_M_findsGo_112 : decode b_M_findsGo 112 = .ok (.iload 4, 2) := by decide +kernel
theorem d_M_findsGo_114 : decode b_M_findsGo 114 = .ok (.ishl, 1) := by decide +kernel
theorem d_M_findsGo_115 : decode b_M_findsGo 115 = .ok (.ior, 1) := by decide +kernel
theorem d_M_findsGo_116 : decode b_M_findsGo 116 = .ok (.iastore, 1) := by decide +kernel
theorem d_M_findsGo_117 : decode b_M_findsGo 117 = .ok (.aload_n 0, 1) := by decide +kernel
theorem d_M_findsGo_118 : decode b_M_findsGo 118 = .ok (.getfield 23, 3) := by decide +kernel
theorem d_M_findsGo_121 : decode b_M_findsGo 121 = .ok (.iload_n 2, 1) := by decide +kernel
theorem d_M_findsGo_122 : decode b_M_findsGo 122 = .ok (.iconst 1, 1) := by decide +kernel
theorem d_M_findsGo_123 : decode b_M_findsGo 123 = .ok (.iastore, 1) := by decide +kernel
theorem d_M_findsGo_124 : decode b_M_findsGo 124 = .ok (.iinc 4 1, 3) := by decide +kernel
theorem d_M_findsGo_127 : decode b_M_findsGo 127 = .ok (.goto (-56), 3) := by decide +kernel
theorem d_M_findsGo_130 : decode b_M_findsGo 130 = .ok (.iinc 2 (-1), 3) := by decide +kernel
theorem d_M_findsGo_133 : decode b_M_findsGo 133 = .ok (.goto (-116), 3) := by decide +kernel
theorem d_M_findsGo_136 : decode b_M_findsGo 136 = .ok (.return_, 1) := by decide +kernel
theorem d_M_isSure_0 : decode b_M_isSure 0 = .ok (.iconst 0, 1) := by decide +kernel
theorem d_M_isSure_1 : decode b_M_isSure 1 = .ok (.istore_n 2, 1) := by decide +kernel
theorem d_M_isSure_2 : decode b_M_isSure 2 = .ok (.iload_n 2, 1) := by decide +kernel
theorem d_M_isSure_3 : decode b_M_isSure 3 = .ok (.aload_n 0, 1) := by decide +kernel
theorem d_M_isSure_4 : decode b_M_isSure 4 = .ok (.invokevirtual 110, 3) := by decide +kernel
theorem d_M_isSure_7 : decode b_M_isSure 7 = .ok (.if_icmp .ge 37, 3) := by decide +kernel
theorem d_M_isSure_10 : decode b_M_isSure 10 = .ok (.iload_n 2, 1) := by decide +kernel
theorem d_M_isSure_11 : decode b_M_isSure 11 = .ok (.iload_n 1, 1) := by decide +kernel
theorem d_M_isSure_12 : decode b_M_isSure 12 = .ok (.iand, 1) := by decide +kernel
theorem d_M_isSure_13 : decode b_M_isSure 13 = .ok (.istore_n 3, 1) := by decide +kernel
theorem d_M_isSure_14 : decode b_M_isSure 14 = .ok (.iload_n 3, 1) := by decide +kernel
theorem d_M_isSure_15 : decode b_M_isSure 15 = .ok (.ifCond .eq 23, 3) := by decide +kernel
theorem d_M_isSure_18 : decode b_M_isSure 18 = .ok (.iload_n 3, 1) := by decide +kernel
theorem d_M_isSure_19 : decode b_M_isSure 19 = .ok (.iload_n 1, 1) := by decide +kernel
theorem d_M_isSure_20 : decode b_M_isSure 20 = .ok (.if_icmp .eq 18, 3) := by decide +kernel
theorem d_M_isSure_23 : decode b_M_isSure 23 = .ok (.aload_n 0, 1) := by decide +kernel
theorem d_M_isSure_24 : decode b_M_isSure 24 = .ok (.getfield 20, 3) := by decide +kernel
theorem d_M_isSure_27 : decode b_M_isSure 27 = .ok (.iload_n 2, 1) := by decide +kernel
theorem d_M_isSure_28 : decode b_M_isSure 28 = .ok (.iaload, 1) := by decide +kernel
theorem d_M_isSure_29 : decode b_M_isSure 29 = .ok (.iload_n 1, 1) := by decide +kernel
theorem d_M_isSure_30 : decode b_M_isSure 30 = .ok (.iconst (-1), 1) := by decide +kernel
theorem d_M_isSure_31 : decode b_M_isSure 31 = .ok (.ixor, 1) := by decide +kernel
theorem d_M_isSure_32 : decode b_M_isSure 32 = .ok (.iand, 1) := by decide +kernel
theorem d_M_isSure_33 : decode b_M_isSure 33 = .ok (.ifCond .eq 5, 3) := by decide +kernel
theorem d_M_isSure_36 : decode b_M_isSure 36 = .ok (.iconst 0, 1) := by decide +kernel
theorem d_M_isSure_37 : decode b_M_isSure 37 = .ok (.ireturn, 1) := by decide +kernel
theorem d_M_isSure_38 : decode b_M_isSure 38 = .ok (.iinc 2 1, 3) := by decide +kernel
theorem d_M_isSure_41 : decode b_M_isSure 41 = .ok (.goto (-39), 3) := by decide +kernel
theorem d_M_isSure_44 : decode b_M_isSure 44 = .ok (.iconst 1, 1) := by decide +kernel
theorem d_M_isSure_45 : decode b_M_isSure 45 = .ok (.ireturn, 1) := by decide +kernel
theorem d_M_areCrossing_0 : decode b_M_areCrossing 0 = .ok (.iload_n 0, 1) := by decide +kernel
theorem d_M_areCrossing_1 : decode b_M_areCrossing 1 = .ok (.iload_n 1, 1) := by decide +kernel
theorem d_M_areCrossing_2 : decode b_M_areCrossing 2 = .ok (.iand, 1) := by decide +kernel
theorem d_M_areCrossing_3 : decode b_M_areCrossing 3 = .ok (.ifCond .eq 23, 3) := by decide +kernel
theorem d_M_areCrossing_6 : decode b_M_areCrossing 6 = .ok (.iload_n 0, 1) := by decide +kernel
theorem d_M_areCrossing_7 : decode b_M_areCrossing 7 = .ok (.iload_n 1, 1) := by decide +kernel
theorem d_M_areCrossing_8 : decode b_M_areCrossing 8 = .ok (.iconst (-1), 1) := by decide +kernel
theorem d_M_areCrossing_9 : decode b_M_areCrossing 9 = .ok (.ixor, 1) := by decide +kernel
theorem d_M_areCrossing_10 : decode b_M_areCrossing 10 = .ok (.iand, 1) := by decide +kernel
theorem d_M_areCrossing_11 : decode b_M_areCrossing 11 = .ok (.ifCond .eq 15, 3) := by decide +kernel
theorem d_M_areCrossing_14 : decode b_M_areCrossing 14 = .ok (.iload_n 1, 1) := by decide +kernel
theorem d_M_areCrossing_15 : decode b_M_areCrossing 15 = .ok (.iload_n 0, 1) := by decide +kernel
theorem d_M_areCrossing_16 : decode b_M_areCrossing 16 = .ok (.iconst (-1), 1) := by decide +kernel
theorem d_M_areCrossing_17 : decode b_M_areCrossing 17 = .ok (.ixor, 1) := by decide +kernel
theorem d_M_areCrossing_18 : decode b_M_areCrossing 18 = .ok (.iand, 1) := by decide +kernel
theorem d_M_areCrossing_19 : decode b_M_areCrossing 19 = .ok (.ifCond .eq 7, 3) := by decide +kernel
theorem d_M_areCrossing_22 : decode b_M_areCrossing 22 = .ok (.iconst 1, 1) := by decide +kernel
theorem d_M_areCrossing_23 : decode b_M_areCrossing 23 = .ok (.goto 4, 3) := by decide +kernel
theorem d_M_areCrossing_26 : decode b_M_areCrossing 26 = .ok (.iconst 0, 1) := by decide +kernel
theorem d_M_areCrossing_27 : decode b_M_areCrossing 27 = .ok (.ireturn, 1) := by decide +kernel
theorem d_M_findsStrong_0 : decode b_M_findsStrong 0 = .ok (.aload_n 0, 1) := by decide +kernel
theorem d_M_findsStrong_1 : decode b_M_findsStrong 1 = .ok (.invokevirtual 130, 3) := by decide +kernel
theorem d_M_findsStrong_4 : decode b_M_findsStrong 4 = .ok (.iconst 0, 1) := by decide +kernel
theorem d_M_findsStrong_5 : decode b_M_findsStrong 5 = .ok (.istore_n 1, 1) := by decide +kernel
theorem d_M_findsStrong_6 : decode b_M_findsStrong 6 = .ok (.iload_n 1, 1) := by decide +kernel
theorem d_M_findsStrong_7 : decode b_M_findsStrong 7 = .ok (.aload_n 0, 1) := by decide +kernel
theorem d_M_findsStrong_8 : decode b_M_findsStrong 8 = .ok (.invokevirtual 110, 3) := by decide +kernel
theorem d_M_findsStrong_11 : decode b_M_findsStrong 11 = .ok (.if_icmp .gt 36, 3) := by decide +kernel
theorem d_M_findsStrong_14 : decode b_M_findsStrong 14 = .ok (.aload_n 0, 1) := by decide +kernel
theorem d_M_findsStrong_15 : decode b_M_findsStrong 15 = .ok (.getfield 26, 3) := by decide +kernel
theorem d_M_findsStrong_18 : decode b_M_findsStrong 18 = .ok (.iload_n 1, 1) := by decide +kernel
theorem d_M_findsStrong_19 : decode b_M_findsStrong 19 = .ok (.iload_n 1, 1) := by decide +kernel
theorem d_M_findsStrong_20 : decode b_M_findsStrong 20 = .ok (.invokestatic 89, 3) := by decide +kernel
theorem d_M_findsStrong_23 : decode b_M_findsStrong 23 = .ok (.iconst 1, 1) := by decide +kernel
theorem d_M_findsStrong_24 : decode b_M_findsStrong 24 = .ok (.if_icmp .le 15, 3) := by decide +kernel
theorem d_M_findsStrong_27 : decode b_M_findsStrong 27 = .ok (.aload_n 0, 1) := by decide +kernel
theorem d_M_findsStrong_28 : decode b_M_findsStrong 28 = .ok (.iload_n 1, 1) := by decide +kernel
theorem d_M_findsStrong_29 : decode b_M_findsStrong 29 = .ok (.invokevirtual 133, 3) := by decide +kernel
theorem d_M_findsStrong_32 : decode b_M_findsStrong 32 = .ok (.ifCond .eq 7, 3) := by decide +kernel
theorem d_M_findsStrong_35 : decode b_M_findsStrong 35 = .ok (.iconst 1, 1) := by decide +kernel
theorem d_M_findsStrong_36 : decode b_M_findsStrong 36 = .ok (.goto 4, 3) := by decide +kernel
theorem d_M_findsStrong_39 : decode b_M_findsStrong 39 = .ok (.iconst 0, 1) := by decide +kernel
theorem d_M_findsStrong_40 : decode b_M_findsStrong 40 = .ok (.iastore, 1) := by decide +kernel
theorem d_M_findsStrong_41 : decode b_M_findsStrong 41 = .ok (.iinc 1 1, 3) := by decide +kernel
theorem d_M_findsStrong_44 : decode b_M_findsStrong 44 = .ok (.goto (-38), 3) := by decide +kernel
theorem d_M_findsStrong_47 : decode b_M_findsStrong 47 = .ok (.iconst 0, 1) := by decide +kernel
theorem d_M_findsStrong_48 : decode b_M_findsStrong 48 = .ok (.istore_n 1, 1) := by decide +kernel
theorem d_M_findsStrong_49 : decode b_M_findsStrong 49 = .ok (.iload_n 1, 1) := by decide +kernel
theorem d_M_findsStrong_50 : decode b_M_findsStrong 50 = .ok (.aload_n 0, 1) := by decide +kernel
theorem d_M_findsStrong_51 : decode b_M_findsStrong 51 = .ok (.invokevirtual 110, 3) := by decide +kernel
theorem d_M_findsStrong_54 : decode b_M_findsStrong 54 = .ok (.if_icmp .gt 83, 3) := by decide +kernel
theorem d_M_findsStrong_57 : decode b_M_findsStrong 57 = .ok (.aload_n 0, 1) := by decide +kernel
theorem d_M_findsStrong_58 : decode b_M_findsStrong 58 = .ok (.getfield 26, 3) := by decide +kernel
theorem d_M_findsStrong_61 : decode b_M_findsStrong 61 = .ok (.iload_n 1, 1) := by decide +kernel
theorem d_M_findsStrong_62 : decode b_M_findsStrong 62 = .ok (.iaload, 1) := by decide +kernel
theorem d_M_findsStrong_63 : decode b_M_findsStrong 63 = .ok (.iconst 1, 1) := by decide +kernel
theorem d_M_findsStrong_64 : decode b_M_findsStrong 64 = .ok (.if_icmp .ne 7, 3) := by decide +kernel
theorem d_M_findsStrong_67 : decode b_M_findsStrong 67 = .ok (.iconst 1, 1) := by decide +kernel
theorem d_M_findsStrong_68 : decode b_M_findsStrong 68 = .ok (.goto 4, 3) := by decide +kernel
theorem d_M_findsStrong_71 : decode b_M_findsStrong 71 = .ok (.iconst 0, 1) := by decide +kernel
theorem d_M_findsStrong_72 : decode b_M_findsStrong 72 = .ok (.istore_n 2, 1) := by decide +kernel
theorem d_M_findsStrong_73 : decode b_M_findsStrong 73 = .ok (.iconst 0, 1) := by decide +kernel
theorem d_M_findsStrong_74 : decode b_M_findsStrong 74 = .ok (.istore_n 3, 1) := by decide +kernel
theorem d_M_findsStrong_75 : decode b_M_findsStrong 75 = .ok (.iload_n 3, 1) := by decide +kernel
theorem d_M_findsStrong_76 : decode b_M_findsStrong 76 = .ok (.aload_n 0, 1) := by decide +kernel
theorem d_M_findsStrong_77 : decode b_M_findsStrong 77 = .ok (.invokevirtual 110, 3) := by decide +kernel
theorem d_M_findsStrong_80 : decode b_M_findsStrong 80 = .ok (.if_icmp .gt 36, 3) := by decide +kernel
theorem d_M_findsStrong_83 : decode b_M_findsStrong 83 = .ok (.iload_n 2, 1) := by decide +kernel
theorem d_M_findsStrong_84 : decode b_M_findsStrong 84 = .ok (.ifCond .eq 32, 3) := by decide +kernel
theorem d_M_findsStrong_87 : decode b_M_findsStrong 87 = .ok (.aload_n 0, 1) := by decide +kernel
theorem d_M_findsStrong_88 : decode b_M_findsStrong 88 = .ok (.getfield 26, 3) := by decide +kernel
theorem d_M_findsStrong_91 : decode b_M_findsStrong 91 = .ok (.iload_n 3, 1) := by decide +kernel
theorem d_M_findsStrong_92 : decode b_M_findsStrong 92 = .ok (.iaload, 1) := by decide +kernel
theorem d_M_findsStrong_93 : decode b_M_findsStrong 93 = .ok (.ifCond .eq 11, 3) := by decide +kernel
theorem d_M_findsStrong_96 : decode b_M_findsStrong 96 = .ok (.iload_n 1, 1) := by decide +kernel
theorem d_M_findsStrong_97 : decode b_M_findsStrong 97 = .ok (.iload_n 3, 1) := by decide +kernel
theorem d_M_findsStrong_98 : decode b_M_findsStrong 98 = .ok (.invokestatic 136, 3) := by decide +kernel
theorem d_M_findsStrong_101 : decode b_M_findsStrong 101 = .ok (.ifCond .ne 7, 3) := by decide +kernel
theorem d_M_findsStrong_104 : decode b_M_findsStrong 104 = .ok (.iconst 1, 1) := by decide +kernel
theorem d_M_findsStrong_105 : decode b_M_findsStrong 105 = .ok (.goto 4, 3) := by decide +kernel
theorem d_M_findsStrong_108 : decode b_M_findsStrong 108 = .ok (.iconst 0, 1) := by decide +kernel
theorem d_M_findsStrong_109 : decode b_M_findsStrong 109 = .ok (.istore_n 2, 1) := by decide +kernel
theorem d_M_findsStrong_110 : decode b_M_findsStrong 110 = .ok (.iinc 3 1, 3) := by decide +kernel
theorem d_M_findsStrong_113 : decode b_M_findsStrong 113 = .ok (.goto (-38), 3) := by decide +kernel
theorem d_M_findsStrong_116 : decode b_M_findsStrong 116 = .ok (.aload_n 0, 1) := by decide +kernel
theorem d_M_findsStrong_117 : decode b_M_findsStrong 117 = .ok (.getfield 44, 3) := by decide +kernel
theorem d_M_findsStrong_120 : decode b_M_findsStrong 120 = .ok (.iload_n 1, 1) := by decide +kernel
theorem d_M_findsStrong_121 : decode b_M_findsStrong 121 = .ok (.iload_n 2, 1) := by decide +kernel
theorem d_M_findsStrong_122 : decode b_M_findsStrong 122 = .ok (.ifCond .eq 7, 3) := by decide +kernel
theorem d_M_findsStrong_125 : decode b_M_findsStrong 125 = .ok (.iconst 1, 1) := by decide +kernel
theorem d_M_findsStrong_126 : decode b_M_findsStrong 126 = .ok (.goto 4, 3) := by decide +kernel
theorem d_M_findsStrong_129 : decode b_M_findsStrong 129 = .ok (.iconst 0, 1) := by decide +kernel
theorem d_M_findsStrong_130 : decode b_M_findsStrong 130 = .ok (.iastore, 1) := by decide +kernel
theorem d_M_findsStrong_131 : decode b_M_findsStrong 131 = .ok (.iinc 1 1, 3) := by decide +kernel
theorem d_M_findsStrong_134 : decode b_M_findsStrong 134 = .ok (.goto (-85), 3) := by decide +kernel
theorem d_M_findsStrong_137 : decode b_M_findsStrong 137 = .ok (.return_, 1) := by decide +kernel
theorem d_M_partWith_0 : decode b_M_partWith 0 = .ok (.iconst 1, 1) := by decide +kernel
theorem d_M_partWith_1 : decode b_M_partWith 1 = .ok (.iload_n 2, 1) := by decide +kernel
theorem d_M_partWith_2 : decode b_M_partWith 2 = .ok (.ishl, 1) := by decide +kernel
theorem d_M_partWith_3 : decode b_M_partWith 3 = .ok (.istore_n 3, 1) := by decide +kernel
theorem d_M_partWith_4 : decode b_M_partWith 4 = .ok (.iconst 0, 1) := by decide +kernel
theorem d_M_partWith_5 : decode b_M_partWith 5 = .ok (.istore 4, 2) := by decide +kernel
theorem d_M_partWith_7 : decode b_M_partWith 7 = .ok (.iload 4, 2) := by decide +kernel
theorem d_M_partWith_9 : decode b_M_partWith 9 = .ok (.iload_n 1, 1) := by decide +kernel
theorem d_M_partWith_10 : decode b_M_partWith 10 = .ok (.if_icmp .ge 69, 3) := by decide +kernel
theorem d_M_partWith_13 : decode b_M_partWith 13 = .ok (.aload_n 0, 1) := by decide +kernel
theorem d_M_partWith_14 : decode b_M_partWith 14 = .ok (.getfield 44, 3) := by decide +kernel
theorem d_M_partWith_17 : decode b_M_partWith 17 = .ok (.iload 4, 2) := by decide +kernel
theorem d_M_partWith_19 : decode b_M_partWith 19 = .ok (.iaload, 1) := by decide +kernel
theorem d_M_partWith_20 : decode b_M_partWith 20 = .ok (.iconst 1, 1) := by decide +kernel
theorem d_M_partWith_21 : decode b_M_partWith 21 = .ok (.if_icmp .ne 25, 3) := by decide +kernel
theorem d_M_partWith_24 : decode b_M_partWith 24 = .ok (.iload 4, 2) := by decide +kernel
theorem d_M_partWith_26 : decode b_M_partWith 26 = .ok (.iload_n 1, 1) := by decide +kernel
theorem d_M_partWith_27 : decode b_M_partWith 27 = .ok (.iconst (-1), 1) := by decide +kernel
theorem d_M_partWith_28 : decode b_M_partWith 28 = .ok (.ixor, 1) := by decide +kernel
theorem d_M_partWith_29 : decode b_M_partWith 29 = .ok (.iand, 1) := by decide +kernel
theorem d_M_partWith_30 : decode b_M_partWith 30 = .ok (.ifCond .ne 16, 3) := by decide +kernel
theorem d_M_partWith_33 : decode b_M_partWith 33 = .ok (.iload 4, 2) := by decide +kernel
theorem d_M_partWith_35 : decode b_M_partWith 35 = .ok (.iload_n 2, 1) := by decide +kernel
theorem d_M_partWith_36 : decode b_M_partWith 36 = .ok (.invokestatic 81, 3) := by decide +kernel
theorem d_M_partWith_39 : decode b_M_partWith 39 = .ok (.ifCond .eq 7, 3) := by decide +kernel
theorem d_M_partWith_42 : decode b_M_partWith 42 = .ok (.iconst 1, 1) := by decide +kernel
theorem d_M_partWith_43 : decode b_M_partWith 43 = .ok (.goto 4, 3) := by decide +kernel
theorem d_M_partWith_46 : decode b_M_partWith 46 = .ok (.iconst 0, 1) := by decide +kernel
theorem d_M_partWith_47 : decode b_M_partWith 47 = .ok (.istore 5, 2) := by decide +kernel
theorem d_M_partWith_49 : decode b_M_partWith 49 = .ok (.iload 5, 2) := by decide +kernel
theorem d_M_partWith_51 : decode b_M_partWith 51 = .ok (.ifCond .eq 20, 3) := by decide +kernel
theorem d_M_partWith_54 : decode b_M_partWith 54 = .ok (.iload 4, 2) := by decide +kernel
theorem d_M_partWith_56 : decode b_M_partWith 56 = .ok (.invokestatic 89, 3) := by decide +kernel
theorem d_M_partWith_59 : decode b_M_partWith 59 = .ok (.iload_n 3, 1) := by decide +kernel
theorem d_M_partWith_60 : decode b_M_partWith 60 = .ok (.invokestatic 89, 3) := by decide +kernel
theorem d_M_partWith_63 : decode b_M_partWith 63 = .ok (.if_icmp .le 8, 3) := by decide +kernel
theorem d_M_partWith_66 : decode b_M_partWith 66 = .ok (.iload 4, 2) := by decide +kernel
theorem d_M_partWith_68 : decode b_M_partWith 68 = .ok (.goto 4, 3) := by decide +kernel
theorem d_M_partWith_71 : decode b_M_partWith 71 = .ok (.iload_n 3, 1) := by decide +kernel
theorem d_M_partWith_72 : decode b_M_partWith 72 = .ok (.istore_n 3, 1) := by decide +kernel
theorem d_M_partWith_73 : decode b_M_partWith 73 = .ok (.iinc 4 1, 3) := by decide +kernel
theorem d_M_partWith_76 : decode b_M_partWith 76 = .ok (.goto (-69), 3) := by decide +kernel
theorem d_M_partWith_79 : decode b_M_partWith 79 = .ok (.iload_n 3, 1) := by decide +kernel
theorem d_M_partWith_80 : decode b_M_partWith 80 = .ok (.ireturn, 1) := by decide +kernel
theorem d_M_areBeside_0 : decode b_M_areBeside 0 = .ok (.iload_n 1, 1) := by decide +kernel
theorem d_M_areBeside_1 : decode b_M_areBeside 1 = .ok (.iload_n 2, 1) := by decide +kernel
theorem d_M_areBeside_2 : decode b_M_areBeside 2 = .ok (.if_icmp .eq 19, 3) := by decide +kernel
theorem d_M_areBeside_5 : decode b_M_areBeside 5 = .ok (.aload_n 0, 1) := by decide +kernel
theorem d_M_areBeside_6 : decode b_M_areBeside 6 = .ok (.getfield 26, 3) := by decide +kernel
theorem d_M_areBeside_9 : decode b_M_areBeside 9 = .ok (.iload_n 1, 1) := by decide +kernel
theorem d_M_areBeside_10 : decode b_M_areBeside 10 = .ok (.iload_n 2, 1) := by decide +kernel
theorem d_M_areBeside_11 : decode b_M_areBeside 11 = .ok (.ior, 1) := by decide +kernel
theorem d_M_areBeside_12 : decode b_M_areBeside 12 = .ok (.iaload, 1) := by decide +kernel
theorem d_M_areBeside_13 : decode b_M_areBeside 13 = .ok (.iconst 1, 1) := by decide +kernel
theorem d_M_areBeside_14 : decode b_M_areBeside 14 = .ok (.if_icmp .ne 7, 3) := by decide +kernel
theorem d_M_areBeside_17 : decode b_M_areBeside 17 = .ok (.iconst 1, 1) := by decide +kernel
theorem d_M_areBeside_18 : decode b_M_areBeside 18 = .ok (.goto 4, 3) := by decide +kernel
theorem d_M_areBeside_21 : decode b_M_areBeside 21 = .ok (.iconst 0, 1) := by decide +kernel
theorem d_M_areBeside_22 : decode b_M_areBeside 22 = .ok (.ireturn, 1) := by decide +kernel
theorem d_M_swaps_0 : decode b_M_swaps 0 = .ok (.aload_n 0, 1) := by decide +kernel
theorem d_M_swaps_1 : decode b_M_swaps 1 = .ok (.getfield 38, 3) := by decide +kernel
theorem d_M_swaps_4 : decode b_M_swaps 4 = .ok (.iload_n 1, 1) := by decide +kernel
theorem d_M_swaps_5 : decode b_M_swaps 5 = .ok (.iaload, 1) := by decide +kernel
theorem d_M_swaps_6 : decode b_M_swaps 6 = .ok (.istore_n 3, 1) := by decide +kernel
theorem d_M_swaps_7 : decode b_M_swaps 7 = .ok (.aload_n 0, 1) := by decide +kernel
theorem d_M_swaps_8 : decode b_M_swaps 8 = .ok (.getfield 38, 3) := by decide +kernel
theorem d_M_swaps_11 : decode b_M_swaps 11 = .ok (.iload_n 1, 1) := by decide +kernel
theorem d_M_swaps_12 : decode b_M_swaps 12 = .ok (.aload_n 0, 1) := by decide +kernel
theorem d_M_swaps_13 : decode b_M_swaps 13 = .ok (.getfield 38, 3) := by decide +kernel
theorem d_M_swaps_16 : decode b_M_swaps 16 = .ok (.iload_n 2, 1) := by decide +kernel
theorem d_M_swaps_17 : decode b_M_swaps 17 = .ok (.iaload, 1) := by decide +kernel
theorem d_M_swaps_18 : decode b_M_swaps 18 = .ok (.iastore, 1) := by decide +kernel
theorem d_M_swaps_19 : decode b_M_swaps 19 = .ok (.aload_n 0, 1) := by decide +kernel
theorem d_M_swaps_20 : decode b_M_swaps 20 = .ok (.getfield 38, 3) := by decide +kernel
theorem d_M_swaps_23 : decode b_M_swaps 23 = .ok (.iload_n 2, 1) := by decide +kernel
theorem d_M_swaps_24 : decode b_M_swaps 24 = .ok (.iload_n 3, 1) := by decide +kernel
theorem d_M_swaps_25 : decode b_M_swaps 25 = .ok (.iastore, 1) := by decide +kernel
theorem d_M_swaps_26 : decode b_M_swaps 26 = .ok (.return_, 1) := by decide +kernel
theorem d_M_turnsRight_0 : decode b_M_turnsRight 0 = .ok (.aload_n 0, 1) := by decide +kernel
theorem d_M_turnsRight_1 : decode b_M_turnsRight 1 = .ok (.getfield 35, 3) := by decide +kernel
theorem d_M_turnsRight_4 : decode b_M_turnsRight 4 = .ok (.iload_n 1, 1) := by decide +kernel
theorem d_M_turnsRight_5 : decode b_M_turnsRight 5 = .ok (.iaload, 1) := by decide +kernel
theorem d_M_turnsRight_6 : decode b_M_turnsRight 6 = .ok (.istore_n 2, 1) := by decide +kernel
theorem d_M_turnsRight_7 : decode b_M_turnsRight 7 = .ok (.bipush 8, 2) := by decide +kernel
theorem d_M_turnsRight_9 : decode b_M_turnsRight 9 = .ok (.iload_n 1, 1) := by decide +kernel
theorem d_M_turnsRight_10 : decode b_M_turnsRight 10 = .ok (.imul, 1) := by decide +kernel
theorem d_M_turnsRight_11 : decode b_M_turnsRight 11 = .ok (.istore_n 3, 1) := by decide +kernel
theorem d_M_turnsRight_12 : decode b_M_turnsRight 12 = .ok (.iconst (-1), 1) := by decide +kernel
theorem d_M_turnsRight_13 : decode b_M_turnsRight 13 = .ok (.istore 4, 2) := by decide +kernel
theorem d_M_turnsRight_15 : decode b_M_turnsRight 15 = .ok (.iconst 0, 1) := by decide +kernel
theorem d_M_turnsRight_16 : decode b_M_turnsRight 16 = .ok (.istore 5, 2) := by decide +kernel
theorem d_M_turnsRight_18 : decode b_M_turnsRight 18 = .ok (.iload 5, 2) := by decide +kernel
theorem d_M_turnsRight_20 : decode b_M_turnsRight 20 = .ok (.iload_n 2, 1) := by decide +kernel
theorem d_M_turnsRight_21 : decode b_M_turnsRight 21 = .ok (.if_icmp .ge 83, 3) := by decide +kernel
theorem d_M_turnsRight_24 : decode b_M_turnsRight 24 = .ok (.iconst 0, 1) := by decide +kernel
theorem d_M_turnsRight_25 : decode b_M_turnsRight 25 = .ok (.istore 6, 2) := by decide +kernel
theorem d_M_turnsRight_27 : decode b_M_turnsRight 27 = .ok (.iconst 0, 1) := by decide +kernel
theorem d_M_turnsRight_28 : decode b_M_turnsRight 28 = .ok (.istore 7, 2) := by decide +kernel
theorem d_M_turnsRight_30 : decode b_M_turnsRight 30 = .ok (.iload 7, 2) := by decide +kernel
theorem d_M_turnsRight_32 : decode b_M_turnsRight 32 = .ok (.iload_n 2, 1) := by decide +kernel
theorem d_M_turnsRight_33 : decode b_M_turnsRight 33 = .ok (.if_icmp .ge 44, 3) := by decide +kernel
theorem d_M_turnsRight_36 : decode b_M_turnsRight 36 = .ok (.iload 6, 2) := by decide +kernel
theorem d_M_turnsRight_38 : decode b_M_turnsRight 38 = .ok (.aload_n 0, 1) := by decide +kernel
theorem d_M_turnsRight_39 : decode b_M_turnsRight 39 = .ok (.aload_n 0, 1) := by decide +kernel
theorem d_M_turnsRight_40 : decode b_M_turnsRight 40 = .ok (.getfield 38, 3) := by decide +kernel
theorem d_M_turnsRight_43 : decode b_M_turnsRight 43 = .ok (.iload_n 3, 1) := by decide +kernel
theorem d_M_turnsRight_44 : decode b_M_turnsRight 44 = .ok (.iload 5, 2) := by decide +kernel
theorem d_M_turnsRight_46 : decode b_M_turnsRight 46 = .ok (.iadd, 1) := by decide +kernel
theorem d_M_turnsRight_47 : decode b_M_turnsRight 47 = .ok (.iaload, 1) := by decide +kernel
theorem d_M_turnsRight_48 : decode b_M_turnsRight 48 = .ok (.aload_n 0, 1) := by decide +kernel
theorem d_M_turnsRight_49 : decode b_M_turnsRight 49 = .ok (.getfield 38, 3) := by decide +kernel
theorem d_M_turnsRight_52 : decode b_M_turnsRight 52 = .ok (.iload_n 3, 1) := by decide +kernel
theorem d_M_turnsRight_53 : decode b_M_turnsRight 53 = .ok (.iload 7, 2) := by decide +kernel
theorem d_M_turnsRight_55 : decode b_M_turnsRight 55 = .ok (.iadd, 1) := by decide +kernel
theorem d_M_turnsRight_56 : decode b_M_turnsRight 56 = .ok (.iaload, 1) := by decide +kernel
theorem d_M_turnsRight_57 : decode b_M_turnsRight 57 = .ok (.invokevirtual 149, 3) := by decide +kernel
theorem d_M_turnsRight_60 : decode b_M_turnsRight 60 = .ok (.ifCond .eq 7, 3) := by decide +kernel
theorem d_M_turnsRight_63 : decode b_M_turnsRight 63 = .ok (.iconst 1, 1) := by decide +kernel
theorem d_M_turnsRight_64 : decode b_M_turnsRight 64 = .ok (.goto 4, 3) := by decide +kernel
theorem d_M_turnsRight_67 : decode b_M_turnsRight 67 = .ok (.iconst 0, 1) := by decide +kernel
theorem d_M_turnsRight_68 : decode b_M_turnsRight 68 = .ok (.iadd, 1) := by decide +kernel
theorem d_M_turnsRight_69 : decode b_M_turnsRight 69 = .ok (.istore 6, 2) := by decide +kernel
theorem d_M_turnsRight_71 : decode b_M_turnsRight 71 = .ok (.iinc 7 1, 3) := by decide +kernel
theorem d_M_turnsRight_74 : decode b_M_turnsRight 74 = .ok (.goto (-44), 3) := by decide +kernel
theorem d_M_turnsRight_77 : decode b_M_turnsRight 77 = .ok (.iload 6, 2) := by decide +kernel
theorem d_M_turnsRight_79 : decode b_M_turnsRight 79 = .ok (.iconst 1, 1) := by decide +kernel
theorem d_M_turnsRight_80 : decode b_M_turnsRight 80 = .ok (.if_icmp .ne 14, 3) := by decide +kernel
theorem d_M_turnsRight_83 : decode b_M_turnsRight 83 = .ok (.iload 4, 2) := by decide +kernel
theorem d_M_turnsRight_85 : decode b_M_turnsRight 85 = .ok (.iconst (-1), 1) := by decide +kernel
theorem d_M_turnsRight_86 : decode b_M_turnsRight 86 = .ok (.if_icmp .ne 8, 3) := by decide +kernel
theorem d_M_turnsRight_89 : decode b_M_turnsRight 89 = .ok (.iload 5, 2) := by decide +kernel
theorem d_M_turnsRight_91 : decode b_M_turnsRight 91 = .ok (.goto 5, 3) := by decide +kernel
theorem d_M_turnsRight_94 : decode b_M_turnsRight 94 = .ok (.iload 4, 2) := by decide +kernel
theorem d_M_turnsRight_96 : decode b_M_turnsRight 96 = .ok (.istore 4, 2) := by decide +kernel
theorem d_M_turnsRight_98 : decode b_M_turnsRight 98 = .ok (.iinc 5 1, 3) := by decide +kernel
theorem d_M_turnsRight_101 : decode b_M_turnsRight 101 = .ok (.goto (-83), 3) := by decide +kernel
theorem d_M_turnsRight_104 : decode b_M_turnsRight 104 = .ok (.aload_n 0, 1) := by decide +kernel
theorem d_M_turnsRight_105 : decode b_M_turnsRight 105 = .ok (.iload_n 3, 1) := by decide +kernel
theorem d_M_turnsRight_106 : decode b_M_turnsRight 106 = .ok (.iload_n 3, 1) := by decide +kernel
theorem d_M_turnsRight_107 : decode b_M_turnsRight 107 = .ok (.iload 4, 2) := by decide +kernel
theorem d_M_turnsRight_109 : decode b_M_turnsRight 109 = .ok (.iadd, 1) := by decide +kernel
theorem d_M_turnsRight_110 : decode b_M_turnsRight 110 = .ok (.invokevirtual 152, 3) := by decide +kernel
theorem d_M_turnsRight_113 : decode b_M_turnsRight 113 = .ok (.iconst 1, 1) := by decide +kernel
theorem d_M_turnsRight_114 : decode b_M_turnsRight 114 = .ok (.istore 5, 2) := by decide +kernel
theorem d_M_turnsRight_116 : decode b_M_turnsRight 116 = .ok (.iload 5, 2) := by decide +kernel
theorem d_M_turnsRight_118 : decode b_M_turnsRight 118 = .ok (.iload_n 2, 1) := by decide +kernel
theorem d_M_turnsRight_119 : decode b_M_turnsRight 119 = .ok (.if_icmp .ge 76, 3) := by decide +kernel
theorem d_M_turnsRight_122 : decode b_M_turnsRight 122 = .ok (.iconst 0, 1) := by decide +kernel
theorem d_M_turnsRight_123 : decode b_M_turnsRight 123 = .ok (.istore 6, 2) := by decide +kernel
theorem d_M_turnsRight_125 : decode b_M_turnsRight 125 = .ok (.iload 5, 2) := by decide +kernel
theorem d_M_turnsRight_127 : decode b_M_turnsRight 127 = .ok (.istore 7, 2) := by decide +kernel
theorem d_M_turnsRight_129 : decode b_M_turnsRight 129 = .ok (.iload 7, 2) := by decide +kernel
theorem d_M_turnsRight_131 : decode b_M_turnsRight 131 = .ok (.iload_n 2, 1) := by decide +kernel
theorem d_M_turnsRight_132 : decode b_M_turnsRight 132 = .ok (.if_icmp .ge 57, 3) := by decide +kernel
theorem d_M_turnsRight_135 : decode b_M_turnsRight 135 = .ok (.iload 6, 2) := by decide +kernel
theorem d_M_turnsRight_137 : decode b_M_turnsRight 137 = .ok (.ifCond .ne 52, 3) := by decide +kernel
theorem d_M_turnsRight_140 : decode b_M_turnsRight 140 = .ok (.aload_n 0, 1) := by decide +kernel
theorem d_M_turnsRight_141 : decode b_M_turnsRight 141 = .ok (.aload_n 0, 1) := by decide +kernel
theorem d_M_turnsRight_142 : decode b_M_turnsRight 142 = .ok (.getfield 38, 3) := by decide +kernel
theorem d_M_turnsRight_145 : decode b_M_turnsRight 145 = .ok (.iload_n 3, 1) := by decide +kernel
theorem d_M_turnsRight_146 : decode b_M_turnsRight 146 = .ok (.iload 5, 2) := by decide +kernel
theorem d_M_turnsRight_148 : decode b_M_turnsRight 148 = .ok (.iadd, 1) := by decide +kernel
theorem d_M_turnsRight_149 : decode b_M_turnsRight 149 = .ok (.iconst 1, 1) := by decide +kernel
theorem d_M_turnsRight_150 : decode b_M_turnsRight 150 = .ok (.isub, 1) := by decide +kernel
theorem d_M_turnsRight_151 : decode b_M_turnsRight 151 = .ok (.iaload, 1) := by decide +kernel
theorem d_M_turnsRight_152 : decode b_M_turnsRight 152 = .ok (.aload_n 0, 1) := by decide +kernel
theorem d_M_turnsRight_153 : decode b_M_turnsRight 153 = .ok (.getfield 38, 3) := by decide +kernel
theorem d_M_turnsRight_156 : decode b_M_turnsRight 156 = .ok (.iload_n 3, 1) := by decide +kernel
theorem d_M_turnsRight_157 : decode b_M_turnsRight 157 = .ok (.iload 7, 2) := by decide +kernel
theorem d_M_turnsRight_159 : decode b_M_turnsRight 159 = .ok (.iadd, 1) := by decide +kernel
theorem d_M_turnsRight_160 : decode b_M_turnsRight 160 = .ok (.iaload, 1) := by decide +kernel
theorem d_M_turnsRight_161 : decode b_M_turnsRight 161 = .ok (.invokevirtual 149, 3) := by decide +kernel
theorem d_M_turnsRight_164 : decode b_M_turnsRight 164 = .ok (.istore 6, 2) := by decide +kernel
theorem d_M_turnsRight_166 : decode b_M_turnsRight 166 = .ok (.iload 6, 2) := by decide +kernel
theorem d_M_turnsRight_168 : decode b_M_turnsRight 168 = .ok (.ifCond .eq 15, 3) := by decide +kernel
theorem d_M_turnsRight_171 : decode b_M_turnsRight 171 = .ok (.aload_n 0, 1) := by decide +kernel
theorem d_M_turnsRight_172 : decode b_M_turnsRight 172 = .ok (.iload_n 3, 1) := by decide +kernel
theorem d_M_turnsRight_173 : decode b_M_turnsRight 173 = .ok (.iload 5, 2) := by decide +kernel
theorem d_M_turnsRight_175 : decode b_M_turnsRight 175 = .ok (.iadd, 1) := by decide +kernel
theorem d_M_turnsRight_176 : decode b_M_turnsRight 176 = .ok (.iload_n 3, 1) := by decide +kernel
theorem d_M_turnsRight_177 : decode b_M_turnsRight 177 = .ok (.iload 7, 2) := by decide +kernel
theorem d_M_turnsRight_179 : decode b_M_turnsRight 179 = .ok (.iadd, 1) := by decide +kernel
theorem d_M_turnsRight_180 : decode b_M_turnsRight 180 = .ok (.invokevirtual 152, 3) := by decide +kernel
theorem d_M_turnsRight_183 : decode b_M_turnsRight 183 = .ok (.iinc 7 1, 3) := by decide +kernel
theorem d_M_turnsRight_186 : decode b_M_turnsRight 186 = .ok (.goto (-57), 3) := by decide +kernel
theorem d_M_turnsRight_189 : decode b_M_turnsRight 189 = .ok (.iinc 5 1, 3) := by decide +kernel
theorem d_M_turnsRight_192 : decode b_M_turnsRight 192 = .ok (.goto (-76), 3) := by decide +kernel
theorem d_M_turnsRight_195 : decode b_M_turnsRight 195 = .ok (.aload_n 0, 1) := by decide +kernel
theorem d_M_turnsRight_196 : decode b_M_turnsRight 196 = .ok (.getfield 38, 3) := by decide +kernel
theorem d_M_turnsRight_199 : decode b_M_turnsRight 199 = .ok (.iload_n 3, 1) := by decide +kernel
theorem d_M_turnsRight_200 : decode b_M_turnsRight 200 = .ok (.iaload, 1) := by decide +kernel
theorem d_M_turnsRight_201 : decode b_M_turnsRight 201 = .ok (.invokestatic 142, 3) := by decide +kernel
theorem d_M_turnsRight_204 : decode b_M_turnsRight 204 = .ok (.aload_n 0, 1) := by decide +kernel
theorem d_M_turnsRight_205 : decode b_M_turnsRight 205 = .ok (.getfield 38, 3) := by decide +kernel
theorem d_M_turnsRight_208 : decode b_M_turnsRight 208 = .ok (.iload_n 3, 1) := by decide +kernel
theorem d_M_turnsRight_209 : decode b_M_turnsRight 209 = .ok (.iload_n 2, 1) := by decide +kernel
theorem d_M_turnsRight_210 : decode b_M_turnsRight 210 = .ok (.iadd, 1) := by decide +kernel
theorem d_M_turnsRight_211 : decode b_M_turnsRight 211 = .ok (.iconst 1, 1) := by decide +kernel
theorem d_M_turnsRight_212 : decode b_M_turnsRight 212 = .ok (.isub, 1) := by decide +kernel
theorem d_M_turnsRight_213 : decode b_M_turnsRight 213 = .ok (.iaload, 1) := by decide +kernel
theorem d_M_turnsRight_214 : decode b_M_turnsRight 214 = .ok (.invokestatic 142, 3) := by decide +kernel
theorem d_M_turnsRight_217 : decode b_M_turnsRight 217 = .ok (.if_icmp .le 7, 3) := by decide +kernel
theorem d_M_turnsRight_220 : decode b_M_turnsRight 220 = .ok (.iconst 1, 1) := by decide +kernel
theorem d_M_turnsRight_221 : decode b_M_turnsRight 221 = .ok (.goto 4, 3) := by decide +kernel
theorem d_M_turnsRight_224 : decode b_M_turnsRight 224 = .ok (.iconst 0, 1) := by decide +kernel
theorem d_M_turnsRight_225 : decode b_M_turnsRight 225 = .ok (.istore 5, 2) := by decide +kernel
theorem d_M_turnsRight_227 : decode b_M_turnsRight 227 = .ok (.iconst 0, 1) := by decide +kernel
theorem d_M_turnsRight_228 : decode b_M_turnsRight 228 = .ok (.istore 6, 2) := by decide +kernel
theorem d_M_turnsRight_230 : decode b_M_turnsRight 230 = .ok (.iload 6, 2) := by decide +kernel
theorem d_M_turnsRight_232 : decode b_M_turnsRight 232 = .ok (.iload_n 2, 1) := by decide +kernel
theorem d_M_turnsRight_233 : decode b_M_turnsRight 233 = .ok (.iconst 2, 1) := by decide +kernel
theorem d_M_turnsRight_234 : decode b_M_turnsRight 234 = .ok (.idiv, 1) := by decide +kernel
theorem d_M_turnsRight_235 : decode b_M_turnsRight 235 = .ok (.if_icmp .ge 30, 3) := by decide +kernel
theorem d_M_turnsRight_238 : decode b_M_turnsRight 238 = .ok (.iload 5, 2) := by decide +kernel
theorem d_M_turnsRight_240 : decode b_M_turnsRight 240 = .ok (.ifCond .eq 25, 3) := by decide +kernel
theorem d_M_turnsRight_243 : decode b_M_turnsRight 243 = .ok (.aload_n 0, 1) := by decide +kernel
theorem d_M_turnsRight_244 : decode b_M_turnsRight 244 = .ok (.iload_n 3, 1) := by decide +kernel
theorem d_M_turnsRight_245 : decode b_M_turnsRight 245 = .ok (.iload 6, 2) := by decide +kernel
theorem d_M_turnsRight_247 : decode b_M_turnsRight 247 = .ok (.iadd, 1) := by decide +kernel
theorem d_M_turnsRight_248 : decode b_M_turnsRight 248 = .ok (.iload_n 3, 1) := by decide +kernel
theorem d_M_turnsRight_249 : decode b_M_turnsRight 249 = .ok (.iload_n 2, 1) := by decide +kernel
theorem d_M_turnsRight_250 : decode b_M_turnsRight 250 = .ok (.iadd, 1) := by decide +kernel
theorem d_M_turnsRight_251 : decode b_M_turnsRight 251 = .ok (.iconst 1, 1) := by decide +kernel
theorem d_M_turnsRight_252 : decode b_M_turnsRight 252 = .ok (.isub, 1) := by decide +kernel
theorem d_M_turnsRight_253 : decode b_M_turnsRight 253 = .ok (.iload 6, 2) := by decide +kernel
theorem d_M_turnsRight_255 : decode b_M_turnsRight 255 = .ok (.isub, 1) := by decide +kernel
theorem d_M_turnsRight_256 : decode b_M_turnsRight 256 = .ok (.invokevirtual 152, 3) := by decide +kernel
theorem d_M_turnsRight_259 : decode b_M_turnsRight 259 = .ok (.iinc 6 1, 3) := by decide +kernel
theorem d_M_turnsRight_262 : decode b_M_turnsRight 262 = .ok (.goto (-32), 3) := by decide +kernel
theorem d_M_turnsRight_265 : decode b_M_turnsRight 265 = .ok (.return_, 1) := by decide +kernel
theorem d_M_findsParts_0 : decode b_M_findsParts 0 = .ok (.aload_n 0, 1) := by decide +kernel
theorem d_M_findsParts_1 : decode b_M_findsParts 1 = .ok (.getfield 29, 3) := by decide +kernel
theorem d_M_findsParts_4 : decode b_M_findsParts 4 = .ok (.iload_n 1, 1) := by decide +kernel
theorem d_M_findsParts_5 : decode b_M_findsParts 5 = .ok (.iaload, 1) := by decide +kernel
theorem d_M_findsParts_6 : decode b_M_findsParts 6 = .ok (.istore_n 2, 1) := by decide +kernel
theorem d_M_findsParts_7 : decode b_M_findsParts 7 = .ok (.iconst 0, 1) := by decide +kernel
theorem d_M_findsParts_8 : decode b_M_findsParts 8 = .ok (.istore_n 3, 1) := by decide +kernel
theorem d_M_findsParts_9 : decode b_M_findsParts 9 = .ok (.iconst 0, 1) := by decide +kernel
theorem d_M_findsParts_10 : decode b_M_findsParts 10 = .ok (.istore 4, 2) := by decide +kernel
theorem d_M_findsParts_12 : decode b_M_findsParts 12 = .ok (.iload 4, 2) := by decide +kernel
theorem d_M_findsParts_14 : decode b_M_findsParts 14 = .ok (.bipush 8, 2) := by decide +kernel
theorem d_M_findsParts_16 : decode b_M_findsParts 16 = .ok (.if_icmp .ge 53, 3) := by decide +kernel
theorem d_M_findsParts_19 : decode b_M_findsParts 19 = .ok (.iload_n 2, 1) := by decide +kernel
theorem d_M_findsParts_20 : decode b_M_findsParts 20 = .ok (.iload 4, 2) := by decide +kernel
theorem d_M_findsParts_22 : decode b_M_findsParts 22 = .ok (.invokestatic 81, 3) := by decide +kernel
theorem d_M_findsParts_25 : decode b_M_findsParts 25 = .ok (.ifCond .eq 38, 3) := by decide +kernel
theorem d_M_findsParts_28 : decode b_M_findsParts 28 = .ok (.aload_n 0, 1) := by decide +kernel
theorem d_M_findsParts_29 : decode b_M_findsParts 29 = .ok (.iload_n 2, 1) := by decide +kernel
theorem d_M_findsParts_30 : decode b_M_findsParts 30 = .ok (.iload 4, 2) := by decide +kernel
theorem d_M_findsParts_32 : decode b_M_findsParts 32 = .ok (.invokevirtual 139, 3) := by decide +kernel
theorem d_M_findsParts_35 : decode b_M_findsParts 35 = .ok (.istore 5, 2) := by decide +kernel
theorem d_M_findsParts_37 : decode b_M_findsParts 37 = .ok (.iload 5, 2) := by decide +kernel
theorem d_M_findsParts_39 : decode b_M_findsParts 39 = .ok (.invokestatic 142, 3) := by decide +kernel
theorem d_M_findsParts_42 : decode b_M_findsParts 42 = .ok (.iload 4, 2) := by decide +kernel
theorem d_M_findsParts_44 : decode b_M_findsParts 44 = .ok (.if_icmp .ne 19, 3) := by decide +kernel
theorem d_M_findsParts_47 : decode b_M_findsParts 47 = .ok (.aload_n 0, 1) := by decide +kernel
theorem d_M_findsParts_48 : decode b_M_findsParts 48 = .ok (.getfield 38, 3) := by decide +kernel
theorem d_M_findsParts_51 : decode b_M_findsParts 51 = .ok (.bipush 8, 2) := by decide +kernel
theorem d_M_findsParts_53 : decode b_M_findsParts 53 = .ok (.iload_n 1, 1) := by decide +kernel
theorem d_M_findsParts_54 : decode b_M_findsParts 54 = .ok (.imul, 1) := by decide +kernel
theorem d_M_findsParts_55 : decode b_M_findsParts 55 = .ok (.iload_n 3, 1) := by decide +kernel
theorem d_M_findsParts_56 : decode b_M_findsParts 56 = .ok (.iadd, 1) := by decide +kernel
theorem d_M_findsParts_57 : decode b_M_findsParts 57 = .ok (.iload 5, 2) := by decide +kernel
theorem d_M_findsParts_59 : decode b_M_findsParts 59 = .ok (.iastore, 1) := by decide +kernel
theorem d_M_findsParts_60 : decode b_M_findsParts 60 = .ok (.iinc 3 1, 3) := by decide +kernel
theorem d_M_findsParts_63 : decode b_M_findsParts 63 = .ok (.iinc 4 1, 3) := by decide +kernel
theorem d_M_findsParts_66 : decode b_M_findsParts 66 = .ok (.goto (-54), 3) := by decide +kernel
theorem d_M_findsParts_69 : decode b_M_findsParts 69 = .ok (.aload_n 0, 1) := by decide +kernel
theorem d_M_findsParts_70 : decode b_M_findsParts 70 = .ok (.getfield 35, 3) := by decide +kernel
theorem d_M_findsParts_73 : decode b_M_findsParts 73 = .ok (.iload_n 1, 1) := by decide +kernel
theorem d_M_findsParts_74 : decode b_M_findsParts 74 = .ok (.iload_n 3, 1) := by decide +kernel
theorem d_M_findsParts_75 : decode b_M_findsParts 75 = .ok (.iastore, 1) := by decide +kernel
theorem d_M_findsParts_76 : decode b_M_findsParts 76 = .ok (.aload_n 0, 1) := by decide +kernel
theorem d_M_findsParts_77 : decode b_M_findsParts 77 = .ok (.getfield 32, 3) := by decide +kernel
theorem d_M_findsParts_80 : decode b_M_findsParts 80 = .ok (.iload_n 1, 1) := by decide +kernel
theorem d_M_findsParts_81 : decode b_M_findsParts 81 = .ok (.iconst 0, 1) := by decide +kernel
theorem d_M_findsParts_82 : decode b_M_findsParts 82 = .ok (.iastore, 1) := by decide +kernel
theorem d_M_findsParts_83 : decode b_M_findsParts 83 = .ok (.iconst 0, 1) := by decide +kernel
theorem d_M_findsParts_84 : decode b_M_findsParts 84 = .ok (.istore 4, 2) := by decide +kernel
theorem d_M_findsParts_86 : decode b_M_findsParts 86 = .ok (.iload 4, 2) := by decide +kernel
theorem d_M_findsParts_88 : decode b_M_findsParts 88 = .ok (.iload_n 3, 1) := by decide +kernel
theorem d_M_findsParts_89 : decode b_M_findsParts 89 = .ok (.if_icmp .ge 82, 3) := by decide +kernel
theorem d_M_findsParts_92 : decode b_M_findsParts 92 = .ok (.iload_n 3, 1) := by decide +kernel
theorem d_M_findsParts_93 : decode b_M_findsParts 93 = .ok (.iconst 2, 1) := by decide +kernel
theorem d_M_findsParts_94 : decode b_M_findsParts 94 = .ok (.if_icmp .le 77, 3) := by decide +kernel
theorem d_M_findsParts_97 : decode b_M_findsParts 97 = .ok (.iload 4, 2) := by decide +kernel
theorem d_M_findsParts_99 : decode b_M_findsParts 99 = .ok (.iconst 1, 1) := by decide +kernel
theorem d_M_findsParts_100 : decode b_M_findsParts 100 = .ok (.iadd, 1) := by decide +kernel
theorem d_M_findsParts_101 : decode b_M_findsParts 101 = .ok (.istore 5, 2) := by decide +kernel
theorem d_M_findsParts_103 : decode b_M_findsParts 103 = .ok (.iload 5, 2) := by decide +kernel
theorem d_M_findsParts_105 : decode b_M_findsParts 105 = .ok (.iload_n 3, 1) := by decide +kernel
theorem d_M_findsParts_106 : decode b_M_findsParts 106 = .ok (.if_icmp .ge 59, 3) := by decide +kernel
theorem d_M_findsParts_109 : decode b_M_findsParts 109 = .ok (.aload_n 0, 1) := by decide +kernel
theorem d_M_findsParts_110 : decode b_M_findsParts 110 = .ok (.getfield 32, 3) := by decide +kernel
theorem d_M_findsParts_113 : decode b_M_findsParts 113 = .ok (.iload_n 1, 1) := by decide +kernel
theorem d_M_findsParts_114 : decode b_M_findsParts 114 = .ok (.aload_n 0, 1) := by decide +kernel
theorem d_M_findsParts_115 : decode b_M_findsParts 115 = .ok (.getfield 26, 3) := by decide +kernel
theorem d_M_findsParts_118 : decode b_M_findsParts 118 = .ok (.aload_n 0, 1) := by decide +kernel
theorem d_M_findsParts_119 : decode b_M_findsParts 119 = .ok (.getfield 38, 3) := by decide +kernel
theorem d_M_findsParts_122 : decode b_M_findsParts 122 = .ok (.bipush 8, 2) := by decide +kernel
theorem d_M_findsParts_124 : decode b_M_findsParts 124 = .ok (.iload_n 1, 1) := by decide +kernel
theorem d_M_findsParts_125 : decode b_M_findsParts 125 = .ok (.imul, 1) := by decide +kernel
theorem d_M_findsParts_126 : decode b_M_findsParts 126 = .ok (.iload 4, 2) := by decide +kernel
theorem d_M_findsParts_128 : decode b_M_findsParts 128 = .ok (.iadd, 1) := by decide +kernel
theorem d_M_findsParts_129 : decode b_M_findsParts 129 = .ok (.iaload, 1) := by decide +kernel
theorem d_M_findsParts_130 : decode b_M_findsParts 130 = .ok (.aload_n 0, 1) := by decide +kernel
theorem d_M_findsParts_131 : decode b_M_findsParts 131 = .ok (.getfield 38, 3) := by decide +kernel
theorem d_M_findsParts_134 : decode b_M_findsParts 134 = .ok (.bipush 8, 2) := by decide +kernel
theorem d_M_findsParts_136 : decode b_M_findsParts 136 = .ok (.iload_n 1, 1) := by decide +kernel
theorem d_M_findsParts_137 : decode b_M_findsParts 137 = .ok (.imul, 1) := by decide +kernel
theorem d_M_findsParts_138 : decode b_M_findsParts 138 = .ok (.iload 5, 2) := by decide +kernel
theorem d_M_findsParts_140 : decode b_M_findsParts 140 = .ok (.iadd, 1) := by decide +kernel
theorem d_M_findsParts_141 : decode b_M_findsParts 141 = .ok (.iaload, 1) := by decide +kernel
theorem d_M_findsParts_142 : decode b_M_findsParts 142 = .ok (.ior, 1) := by decide +kernel
theorem d_M_findsParts_143 : decode b_M_findsParts 143 = .ok (.iaload, 1) := by decide +kernel
theorem d_M_findsParts_144 : decode b_M_findsParts 144 = .ok (.iconst 1, 1) := by decide +kernel
theorem d_M_findsParts_145 : decode b_M_findsParts 145 = .ok (.if_icmp .ne 7, 3) := by decide +kernel
theorem d_M_findsParts_148 : decode b_M_findsParts 148 = .ok (.iconst 1, 1) := by decide +kernel
theorem d_M_findsParts_149 : decode b_M_findsParts 149 = .ok (.goto 9, 3) := by decide +kernel
theorem d_M_findsParts_152 : decode b_M_findsParts 152 = .ok (.aload_n 0, 1) := by decide +kernel
theorem d_M_findsParts_153 : decode b_M_findsParts 153 = .ok (.getfield 32, 3) := by decide +kernel
theorem d_M_findsParts_156 : decode b_M_findsParts 156 = .ok (.iload_n 1, 1) := by decide +kernel
theorem d_M_findsParts_157 : decode b_M_findsParts 157 = .ok (.iaload, 1) := by decide +kernel
theorem d_M_findsParts_158 : decode b_M_findsParts 158 = .ok (.iastore, 1) := by decide +kernel
theorem d_M_findsParts_159 : decode b_M_findsParts 159 = .ok (.iinc 5 1, 3) := by decide +kernel
theorem d_M_findsParts_162 : decode b_M_findsParts 162 = .ok (.goto (-59), 3) := by decide +kernel
theorem d_M_findsParts_165 : decode b_M_findsParts 165 = .ok (.iinc 4 1, 3) := by decide +kernel
theorem d_M_findsParts_168 : decode b_M_findsParts 168 = .ok (.goto (-82), 3) := by decide +kernel
theorem d_M_findsParts_171 : decode b_M_findsParts 171 = .ok (.aload_n 0, 1) := by decide +kernel
theorem d_M_findsParts_172 : decode b_M_findsParts 172 = .ok (.getfield 32, 3) := by decide +kernel
theorem d_M_findsParts_175 : decode b_M_findsParts 175 = .ok (.iload_n 1, 1) := by decide +kernel
theorem d_M_findsParts_176 : decode b_M_findsParts 176 = .ok (.iaload, 1) := by decide +kernel
theorem d_M_findsParts_177 : decode b_M_findsParts 177 = .ok (.iconst 1, 1) := by decide +kernel
theorem d_M_findsParts_178 : decode b_M_findsParts 178 = .ok (.if_icmp .ne 8, 3) := by decide +kernel
theorem d_M_findsParts_181 : decode b_M_findsParts 181 = .ok (.aload_n 0, 1) := by decide +kernel
theorem d_M_findsParts_182 : decode b_M_findsParts 182 = .ok (.iload_n 1, 1) := by decide +kernel
theorem d_M_findsParts_183 : decode b_M_findsParts 183 = .ok (.invokevirtual 145, 3) := by decide +kernel
theorem d_M_findsParts_186 : decode b_M_findsParts 186 = .ok (.return_, 1) := by decide +kernel
theorem d_M_nodeOf_0 : decode b_M_nodeOf 0 = .ok (.iconst (-1), 1) := by decide +kernel
theorem d_M_nodeOf_1 : decode b_M_nodeOf 1 = .ok (.istore_n 2, 1) := by decide +kernel
theorem d_M_nodeOf_2 : decode b_M_nodeOf 2 = .ok (.iconst 0, 1) := by decide +kernel
theorem d_M_nodeOf_3 : decode b_M_nodeOf 3 = .ok (.istore_n 3, 1) := by decide +kernel
theorem d_M_nodeOf_4 : decode b_M_nodeOf 4 = .ok (.iload_n 3, 1) := by decide +kernel
theorem d_M_nodeOf_5 : decode b_M_nodeOf 5 = .ok (.aload_n 0, 1) := by decide +kernel
theorem d_M_nodeOf_6 : decode b_M_nodeOf 6 = .ok (.getfield 156, 3) := by decide +kernel
theorem d_M_nodeOf_9 : decode b_M_nodeOf 9 = .ok (.if_icmp .ge 25, 3) := by decide +kernel
theorem d_M_nodeOf_12 : decode b_M_nodeOf 12 = .ok (.aload_n 0, 1) := by decide +kernel
theorem d_M_nodeOf_13 : decode b_M_nodeOf 13 = .ok (.getfield 29, 3) := by decide +kernel
theorem d_M_nodeOf_16 : decode b_M_nodeOf 16 = .ok (.iload_n 3, 1) := by decide +kernel
theorem d_M_nodeOf_17 : decode b_M_nodeOf 17 = .ok (.iaload, 1) := by decide +kernel
theorem d_M_nodeOf_18 : decode b_M_nodeOf 18 = .ok (.iload_n 1, 1) := by decide +kernel
theorem d_M_nodeOf_19 : decode b_M_nodeOf 19 = .ok (.if_icmp .ne 7, 3) := by decide +kernel
theorem d_M_nodeOf_22 : decode b_M_nodeOf 22 = .ok (.iload_n 3, 1) := by decide +kernel
theorem d_M_nodeOf_23 : decode b_M_nodeOf 23 = .ok (.goto 4, 3) := by decide +kernel
theorem d_M_nodeOf_26 : decode b_M_nodeOf 26 = .ok (.iload_n 2, 1) := by decide +kernel
theorem d_M_nodeOf_27 : decode b_M_nodeOf 27 = .ok (.istore_n 2, 1) := by decide +kernel
theorem d_M_nodeOf_28 : decode b_M_nodeOf 28 = .ok (.iinc 3 1, 3) := by decide +kernel
theorem d_M_nodeOf_31 : decode b_M_nodeOf 31 = .ok (.goto (-27), 3) := by decide +kernel
theorem d_M_nodeOf_34 : decode b_M_nodeOf 34 = .ok (.iload_n 2, 1) := by decide +kernel
theorem d_M_nodeOf_35 : decode b_M_nodeOf 35 = .ok (.ireturn, 1) := by decide +kernel
theorem d_M_shows_0 : decode b_M_shows 0 = .ok (.aload_n 0, 1) := by decide +kernel
theorem d_M_shows_1 : decode b_M_shows 1 = .ok (.getfield 41, 3) := by decide +kernel
theorem d_M_shows_4 : decode b_M_shows 4 = .ok (.aload_n 0, 1) := by decide +kernel
theorem d_M_shows_5 : decode b_M_shows 5 = .ok (.getfield 159, 3) := by decide +kernel
theorem d_M_shows_8 : decode b_M_shows 8 = .ok (.iload_n 1, 1) := by decide +kernel
theorem d_M_shows_9 : decode b_M_shows 9 = .ok (.iastore, 1) := by decide +kernel
theorem d_M_shows_10 : decode b_M_shows 10 = .ok (.aload_n 0, 1) := by decide +kernel
theorem d_M_shows_11 : decode b_M_shows 11 = .ok (.dup, 1) := by decide +kernel
theorem d_M_shows_12 : decode b_M_shows 12 = .ok (.getfield 159, 3) := by decide +kernel
theorem d_M_shows_15 : decode b_M_shows 15 = .ok (.iconst 1, 1) := by decide +kernel
theorem d_M_shows_16 : decode b_M_shows 16 = .ok (.iadd, 1) := by decide +kernel
theorem d_M_shows_17 : decode b_M_shows 17 = .ok (.putfield 159, 3) := by decide +kernel
theorem d_M_shows_20 : decode b_M_shows 20 = .ok (.return_, 1) := by decide +kernel
theorem d_M_findsTree_0 : decode b_M_findsTree 0 = .ok (.aload_n 0, 1) := by decide +kernel
theorem d_M_findsTree_1 : decode b_M_findsTree 1 = .ok (.invokevirtual 162, 3) := by decide +kernel
theorem d_M_findsTree_4 : decode b_M_findsTree 4 = .ok (.aload_n 0, 1) := by decide +kernel
theorem d_M_findsTree_5 : decode b_M_findsTree 5 = .ok (.iconst 0, 1) := by decide +kernel
theorem d_M_findsTree_6 : decode b_M_findsTree 6 = .ok (.putfield 156, 3) := by decide +kernel
theorem d_M_findsTree_9 : decode b_M_findsTree 9 = .ok (.aload_n 0, 1) := by decide +kernel
theorem d_M_findsTree_10 : decode b_M_findsTree 10 = .ok (.iconst 0, 1) := by decide +kernel
theorem d_M_findsTree_11 : decode b_M_findsTree 11 = .ok (.putfield 159, 3) := by decide +kernel
theorem d_M_findsTree_14 : decode b_M_findsTree 14 = .ok (.aload_n 0, 1) := by decide +kernel
theorem d_M_findsTree_15 : decode b_M_findsTree 15 = .ok (.getfield 47, 3) := by decide +kernel
theorem d_M_findsTree_18 : decode b_M_findsTree 18 = .ok (.iconst 0, 1) := by decide +kernel
theorem d_M_findsTree_19 : decode b_M_findsTree 19 = .ok (.aload_n 0, 1) := by decide +kernel
theorem d_M_findsTree_20 : decode b_M_findsTree 20 = .ok (.invokevirtual 110, 3) := by decide +kernel
theorem d_M_findsTree_23 : decode b_M_findsTree 23 = .ok (.iastore, 1) := by decide +kernel
theorem d_M_findsTree_24 : decode b_M_findsTree 24 = .ok (.iconst 1, 1) := by decide +kernel
theorem d_M_findsTree_25 : decode b_M_findsTree 25 = .ok (.istore_n 1, 1) := by decide +kernel
theorem d_M_findsTree_26 : decode b_M_findsTree 26 = .ok (.iload_n 1, 1) := by decide +kernel
theorem d_M_findsTree_27 : decode b_M_findsTree 27 = .ok (.ifCond .le 177, 3) := by decide +kernel
theorem d_M_findsTree_30 : decode b_M_findsTree 30 = .ok (.iinc 1 (-1), 3) := by decide +kernel
theorem d_M_findsTree_33 : decode b_M_findsTree 33 = .ok (.aload_n 0, 1) := by decide +kernel
theorem d_M_findsTree_34 : decode b_M_findsTree 34 = .ok (.getfield 47, 3) := by decide +kernel
theorem d_M_findsTree_37 : decode b_M_findsTree 37 = .ok (.iload_n 1, 1) := by decide +kernel
theorem d_M_findsTree_38 : decode b_M_findsTree 38 = .ok (.iaload, 1) := by decide +kernel
theorem d_M_findsTree_39 : decode b_M_findsTree 39 = .ok (.istore_n 2, 1) := by decide +kernel
theorem d_M_findsTree_40 : decode b_M_findsTree 40 = .ok (.iload_n 2, 1) := by decide +kernel
theorem d_M_findsTree_41 : decode b_M_findsTree 41 = .ok (.sipush 1000, 3) := by decide +kernel
theorem d_M_findsTree_44 : decode b_M_findsTree 44 = .ok (.if_icmp .lt 15, 3) := by decide +kernel
theorem d_M_findsTree_47 : decode b_M_findsTree 47 = .ok (.aload_n 0, 1) := by decide +kernel
theorem d_M_findsTree_48 : decode b_M_findsTree 48 = .ok (.iload_n 2, 1) := by decide +kernel
theorem d_M_findsTree_49 : decode b_M_findsTree 49 = .ok (.sipush 1000, 3) := by decide +kernel
theorem d_M_findsTree_52 : decode b_M_findsTree 52 = .ok (.isub, 1) := by decide +kernel
theorem d_M_findsTree_53 : decode b_M_findsTree 53 = .ok (.invokevirtual 165, 3) := by decide +kernel
theorem d_M_findsTree_56 : decode b_M_findsTree 56 = .ok (.goto 145, 3) := by decide +kernel
theorem d_M_findsTree_59 : decode b_M_findsTree 59 = .ok (.iload_n 2, 1) := by decide +kernel
theorem d_M_findsTree_60 : decode b_M_findsTree 60 = .ok (.invokestatic 89, 3) := by decide +kernel
theorem d_M_findsTree_63 : decode b_M_findsTree 63 = .ok (.iconst 1, 1) := by decide +kernel
theorem d_M_findsTree_64 : decode b_M_findsTree 64 = .ok (.if_icmp .ne 17, 3) := by decide +kernel
theorem d_M_findsTree_67 : decode b_M_findsTree 67 = .ok (.aload_n 0, 1) := by decide +kernel
theorem d_M_findsTree_68 : decode b_M_findsTree 68 = .ok (.bipush 97, 2) := by decide +kernel
theorem d_M_findsTree_70 : decode b_M_findsTree 70 = .ok (.iload_n 2, 1) := by decide +kernel
theorem d_M_findsTree_71 : decode b_M_findsTree 71 = .ok (.invokestatic 142, 3) := by decide +kernel
theorem d_M_findsTree_74 : decode b_M_findsTree 74 = .ok (.iadd, 1) := by decide +kernel
theorem d_M_findsTree_75 : decode b_M_findsTree 75 = .ok (.invokevirtual 165, 3) := by decide +kernel
theorem d_M_findsTree_78 : decode b_M_findsTree 78 = .ok (.goto 123, 3) := by decide +kernel
theorem d_M_findsTree_81 : decode b_M_findsTree 81 = .ok (.aload_n 0, 1) := by decide +kernel
theorem d_M_findsTree_82 : decode b_M_findsTree 82 = .ok (.getfield 156, 3) := by decide +kernel
theorem d_M_findsTree_85 : decode b_M_findsTree 85 = .ok (.istore_n 3, 1) := by decide +kernel
theorem d_M_findsTree_86 : decode b_M_findsTree 86 = .ok (.aload_n 0, 1) := by decide +kernel
theorem d_M_findsTree_87 : decode b_M_findsTree 87 = .ok (.getfield 29, 3) := by decide +kernel
theorem d_M_findsTree_90 : decode b_M_findsTree 90 = .ok (.iload_n 3, 1) := by decide +kernel
theorem d_M_findsTree_91 : decode b_M_findsTree 91 = .ok (.iload_n 2, 1) := by decide +kernel
theorem d_M_findsTree_92 : decode b_M_findsTree 92 = .ok (.iastore, 1) := by decide +kernel
theorem d_M_findsTree_93 : decode b_M_findsTree 93 = .ok (.aload_n 0, 1) := by decide +kernel
theorem d_M_findsTree_94 : decode b_M_findsTree 94 = .ok (.dup, 1) := by decide +kernel
theorem d_M_findsTree_95 : decode b_M_findsTree 95 = .ok (.getfield 156, 3) := by decide +kernel
theorem d_M_findsTree_98 : decode b_M_findsTree 98 = .ok (.iconst 1, 1) := by decide +kernel
theorem d_M_findsTree_99 : decode b_M_findsTree 99 = .ok (.iadd, 1) := by decide +kernel
theorem d_M_findsTree_100 : decode b_M_findsTree 100 = .ok (.putfield 156, 3) := by decide +kernel
theorem d_M_findsTree_103 : decode b_M_findsTree 103 = .ok (.aload_n 0, 1) := by decide +kernel
theorem d_M_findsTree_104 : decode b_M_findsTree 104 = .ok (.iload_n 3, 1) := by decide +kernel
theorem d_M_findsTree_105 : decode b_M_findsTree 105 = .ok (.invokevirtual 168, 3) := by decide +kernel
theorem d_M_findsTree_108 : decode b_M_findsTree 108 = .ok (.aload_n 0, 1) := by decide +kernel
theorem d_M_findsTree_109 : decode b_M_findsTree 109 = .ok (.aload_n 0, 1) := by decide +kernel
theorem d_M_findsTree_110 : decode b_M_findsTree 110 = .ok (.getfield 32, 3) := by decide +kernel
theorem d_M_findsTree_113 : decode b_M_findsTree 113 = .ok (.iload_n 3, 1) := by decide +kernel
theorem d_M_findsTree_114 : decode b_M_findsTree 114 = .ok (.iaload, 1) := by decide +kernel
theorem d_M_findsTree_115 : decode b_M_findsTree 115 = .ok (.iconst 1, 1) := by decide +kernel
theorem d_M_findsTree_116 : decode b_M_findsTree 116 = .ok (.if_icmp .ne 8, 3) := by decide +kernel
theorem d_M_findsTree_119 : decode b_M_findsTree 119 = .ok (.bipush 91, 2) := by decide +kernel
theorem d_M_findsTree_121 : decode b_M_findsTree 121 = .ok (.goto 5, 3) := by decide +kernel
theorem d_M_findsTree_124 : decode b_M_findsTree 124 = .ok (.bipush 40, 2) := by decide +kernel
theorem d_M_findsTree_126 : decode b_M_findsTree 126 = .ok (.invokevirtual 165, 3) := by decide +kernel
theorem d_M_findsTree_129 : decode b_M_findsTree 129 = .ok (.aload_n 0, 1) := by decide +kernel
theorem d_M_findsTree_130 : decode b_M_findsTree 130 = .ok (.getfield 47, 3) := by decide +kernel
theorem d_M_findsTree_133 : decode b_M_findsTree 133 = .ok (.iload_n 1, 1) := by decide +kernel
theorem d_M_findsTree_134 : decode b_M_findsTree 134 = .ok (.sipush 1000, 3) := by decide +kernel
theorem d_M_findsTree_137 : decode b_M_findsTree 137 = .ok (.aload_n 0, 1) := by decide +kernel
theorem d_M_findsTree_138 : decode b_M_findsTree 138 = .ok (.getfield 32, 3) := by decide +kernel
theorem d_M_findsTree_141 : decode b_M_findsTree 141 = .ok (.iload_n 3, 1) := by decide +kernel
theorem d_M_findsTree_142 : decode b_M_findsTree 142 = .ok (.iaload, 1) := by decide +kernel
theorem d_M_findsTree_143 : decode b_M_findsTree 143 = .ok (.iconst 1, 1) := by decide +kernel
theorem d_M_findsTree_144 : decode b_M_findsTree 144 = .ok (.if_icmp .ne 8, 3) := by decide +kernel
theorem d_M_findsTree_147 : decode b_M_findsTree 147 = .ok (.bipush 93, 2) := by decide +kernel
theorem d_M_findsTree_149 : decode b_M_findsTree 149 = .ok (.goto 5, 3) := by decide +kernel
theorem d_M_findsTree_152 : decode b_M_findsTree 152 = .ok (.bipush 41, 2) := by decide +kernel
theorem d_M_findsTree_154 : decode b_M_findsTree 154 = .ok (.iadd, 1) := by decide +kernel
theorem d_M_findsTree_155 : decode b_M_findsTree 155 = .ok (.iastore, 1) := by decide +kernel
theorem d_M_findsTree_156 : decode b_M_findsTree 156 = .ok (.iinc 1 1, 3) := by decide +kernel
theorem d_M_findsTree_159 : decode b_M_findsTree 159 = .ok (.aload_n 0, 1) := by decide +kernel
theorem d_M_findsTree_160 : decode b_M_findsTree 160 = .ok (.getfield 35, 3) := by decide +kernel
theorem d_M_findsTree_163 : decode b_M_findsTree 163 = .ok (.iload_n 3, 1) := by decide +kernel
theorem d_M_findsTree_164 : decode b_M_findsTree 164 = .ok (.iaload, 1) := by decide +kernel
theorem d_M_findsTree_165 : decode b_M_findsTree 165 = .ok (.iconst 1, 1) := by decide +kernel
theorem d_M_findsTree_166 : decode b_M_findsTree 166 = .ok (.isub, 1) := by decide +kernel
theorem d_M_findsTree_167 : decode b_M_findsTree 167 = .ok (.istore 4, 2) := by decide +kernel
theorem d_M_findsTree_169 : decode b_M_findsTree 169 = .ok (.iload 4, 2) := by decide +kernel
theorem d_M_findsTree_171 : decode b_M_findsTree 171 = .ok (.ifCond .lt 30, 3) := by decide +kernel
theorem d_M_findsTree_174 : decode b_M_findsTree 174 = .ok (.aload_n 0, 1) := by decide +kernel
theorem d_M_findsTree_175 : decode b_M_findsTree 175 = .ok (.getfield 47, 3) := by decide +kernel
theorem d_M_findsTree_178 : decode b_M_findsTree 178 = .ok (.iload_n 1, 1) := by decide +kernel
theorem d_M_findsTree_179 : decode b_M_findsTree 179 = .ok (.aload_n 0, 1) := by decide +kernel
theorem d_M_findsTree_180 : decode b_M_findsTree 180 = .ok (.getfield 38, 3) := by decide +kernel
theorem d_M_findsTree_183 : decode b_M_findsTree 183 = .ok (.bipush 8, 2) := by decide +kernel
theorem d_M_findsTree_185 : decode b_M_findsTree 185 = .ok (.iload_n 3, 1) := by decide +kernel
theorem d_M_findsTree_186 : decode b_M_findsTree 186 = .ok (.imul, 1) := by decide +kernel
theorem d_M_findsTree_187 : decode b_M_findsTree 187 = .ok (.iload 4, 2) := by decide +kernel
theorem d_M_findsTree_189 : decode b_M_findsTree 189 = .ok (.iadd, 1) := by decide +kernel
theorem d_M_findsTree_190 : decode b_M_findsTree 190 = .ok (.iaload, 1) := by decide +kernel
theorem d_M_findsTree_191 : decode b_M_findsTree 191 = .ok (.iastore, 1) := by decide +kernel
theorem d_M_findsTree_192 : decode b_M_findsTree 192 = .ok (.iinc 1 1, 3) := by decide +kernel
theorem d_M_findsTree_195 : decode b_M_findsTree 195 = .ok (.iinc 4 (-1), 3) := by decide +kernel
theorem d_M_findsTree_198 : decode b_M_findsTree 198 = .ok (.goto (-29), 3) := by decide +kernel
theorem d_M_findsTree_201 : decode b_M_findsTree 201 = .ok (.goto (-175), 3) := by decide +kernel
theorem d_M_findsTree_204 : decode b_M_findsTree 204 = .ok (.return_, 1) := by decide +kernel
theorem d_M_treeOf_0 : decode b_M_treeOf 0 = .ok (.aload_n 0, 1) := by decide +kernel
theorem d_M_treeOf_1 : decode b_M_treeOf 1 = .ok (.invokevirtual 171, 3) := by decide +kernel
theorem d_M_treeOf_4 : decode b_M_treeOf 4 = .ok (.iload_n 1, 1) := by decide +kernel
theorem d_M_treeOf_5 : decode b_M_treeOf 5 = .ok (.iconst (-1), 1) := by decide +kernel
theorem d_M_treeOf_6 : decode b_M_treeOf 6 = .ok (.if_icmp .ne 10, 3) := by decide +kernel
theorem d_M_treeOf_9 : decode b_M_treeOf 9 = .ok (.aload_n 0, 1) := by decide +kernel
theorem d_M_treeOf_10 : decode b_M_treeOf 10 = .ok (.getfield 159, 3) := by decide +kernel
theorem d_M_treeOf_13 : decode b_M_treeOf 13 = .ok (.goto 21, 3) := by decide +kernel
theorem d_M_treeOf_16 : decode b_M_treeOf 16 = .ok (.iload_n 1, 1) := by decide +kernel
theorem d_M_treeOf_17 : decode b_M_treeOf 17 = .ok (.aload_n 0, 1) := by decide +kernel
theorem d_M_treeOf_18 : decode b_M_treeOf 18 = .ok (.getfield 159, 3) := by decide +kernel
theorem d_M_treeOf_21 : decode b_M_treeOf 21 = .ok (.if_icmp .ge 12, 3) := by decide +kernel
theorem d_M_treeOf_24 : decode b_M_treeOf 24 = .ok (.aload_n 0, 1) := by decide +kernel
theorem d_M_treeOf_25 : decode b_M_treeOf 25 = .ok (.getfield 41, 3) := by decide +kernel
theorem d_M_treeOf_28 : decode b_M_treeOf 28 = .ok (.iload_n 1, 1) := by decide +kernel
theorem d_M_treeOf_29 : decode b_M_treeOf 29 = .ok (.iaload, 1) := by decide +kernel
theorem d_M_treeOf_30 : decode b_M_treeOf 30 = .ok (.goto 4, 3) := by decide +kernel
theorem d_M_treeOf_33 : decode b_M_treeOf 33 = .ok (.iconst (-1), 1) := by decide +kernel
theorem d_M_treeOf_34 : decode b_M_treeOf 34 = .ok (.ireturn, 1) := by decide +kernel
theorem d_M_tree_0 : decode b_M_tree 0 = .ok (.iload_n 1, 1) := by decide +kernel
theorem d_M_tree_1 : decode b_M_tree 1 = .ok (.iconst (-1), 1) := by decide +kernel
theorem d_M_tree_2 : decode b_M_tree 2 = .ok (.bipush 39, 2) := by decide +kernel
theorem d_M_tree_4 : decode b_M_tree 4 = .ok (.invokestatic 85, 3) := by decide +kernel
theorem d_M_tree_7 : decode b_M_tree 7 = .ok (.ifCond .eq 11, 3) := by decide +kernel
theorem d_M_tree_10 : decode b_M_tree 10 = .ok (.aload_n 0, 1) := by decide +kernel
theorem d_M_tree_11 : decode b_M_tree 11 = .ok (.iload_n 1, 1) := by decide +kernel
theorem d_M_tree_12 : decode b_M_tree 12 = .ok (.invokevirtual 174, 3) := by decide +kernel
theorem d_M_tree_15 : decode b_M_tree 15 = .ok (.goto 5, 3) := by decide +kernel
theorem d_M_tree_18 : decode b_M_tree 18 = .ok (.bipush (-2), 2) := by decide +kernel
theorem d_M_tree_20 : decode b_M_tree 20 = .ok (.ireturn, 1) := by decide +kernel
theorem d_M_nodeFor_0 : decode b_M_nodeFor 0 = .ok (.aload_n 0, 1) := by decide +kernel
theorem d_M_nodeFor_1 : decode b_M_nodeFor 1 = .ok (.invokevirtual 171, 3) := by decide +kernel
theorem d_M_nodeFor_4 : decode b_M_nodeFor 4 = .ok (.iload_n 1, 1) := by decide +kernel
theorem d_M_nodeFor_5 : decode b_M_nodeFor 5 = .ok (.aload_n 0, 1) := by decide +kernel
theorem d_M_nodeFor_6 : decode b_M_nodeFor 6 = .ok (.getfield 156, 3) := by decide +kernel
theorem d_M_nodeFor_9 : decode b_M_nodeFor 9 = .ok (.if_icmp .lt 7, 3) := by decide +kernel
theorem d_M_nodeFor_12 : decode b_M_nodeFor 12 = .ok (.iconst (-1), 1) := by decide +kernel
theorem d_M_nodeFor_13 : decode b_M_nodeFor 13 = .ok (.goto 36, 3) := by decide +kernel
theorem d_M_nodeFor_16 : decode b_M_nodeFor 16 = .ok (.iload_n 2, 1) := by decide +kernel
theorem d_M_nodeFor_17 : decode b_M_nodeFor 17 = .ok (.ifCond .ne 12, 3) := by decide +kernel
theorem d_M_nodeFor_20 : decode b_M_nodeFor 20 = .ok (.aload_n 0, 1) := by decide +kernel
theorem d_M_nodeFor_21 : decode b_M_nodeFor 21 = .ok (.getfield 32, 3) := by decide +kernel
theorem d_M_nodeFor_24 : decode b_M_nodeFor 24 = .ok (.iload_n 1, 1) := by decide +kernel
theorem d_M_nodeFor_25 : decode b_M_nodeFor 25 = .ok (.iaload, 1) := by decide +kernel
theorem d_M_nodeFor_26 : decode b_M_nodeFor 26 = .ok (.goto 23, 3) := by decide +kernel
theorem d_M_nodeFor_29 : decode b_M_nodeFor 29 = .ok (.iload_n 2, 1) := by decide +kernel
theorem d_M_nodeFor_30 : decode b_M_nodeFor 30 = .ok (.iconst 1, 1) := by decide +kernel
theorem d_M_nodeFor_31 : decode b_M_nodeFor 31 = .ok (.if_icmp .ne 12, 3) := by decide +kernel
theorem d_M_nodeFor_34 : decode b_M_nodeFor 34 = .ok (.aload_n 0, 1) := by decide +kernel
theorem d_M_nodeFor_35 : decode b_M_nodeFor 35 = .ok (.getfield 35, 3) := by decide +kernel
theorem d_M_nodeFor_38 : decode b_M_nodeFor 38 = .ok (.iload_n 1, 1) := by decide +kernel
theorem d_M_nodeFor_39 : decode b_M_nodeFor 39 = .ok (.iaload, 1) := by decide +kernel
theorem d_M_nodeFor_40 : decode b_M_nodeFor 40 = .ok (.goto 9, 3) := by decide +kernel
theorem d_M_nodeFor_43 : decode b_M_nodeFor 43 = .ok (.aload_n 0, 1) := by decide +kernel
theorem d_M_nodeFor_44 : decode b_M_nodeFor 44 = .ok (.getfield 29, 3) := by decide +kernel
theorem d_M_nodeFor_47 : decode b_M_nodeFor 47 = .ok (.iload_n 1, 1) := by decide +kernel
theorem d_M_nodeFor_48 : decode b_M_nodeFor 48 = .ok (.iaload, 1) := by decide +kernel
theorem d_M_nodeFor_49 : decode b_M_nodeFor 49 = .ok (.ireturn, 1) := by decide +kernel
theorem d_M_node_0 : decode b_M_node 0 = .ok (.iload_n 1, 1) := by decide +kernel
theorem d_M_node_1 : decode b_M_node 1 = .ok (.iconst 0, 1) := by decide +kernel
theorem d_M_node_2 : decode b_M_node 2 = .ok (.bipush 6, 2) := by decide +kernel
theorem d_M_node_4 : decode b_M_node 4 = .ok (.invokestatic 85, 3) := by decide +kernel
theorem d_M_node_7 : decode b_M_node 7 = .ok (.ifCond .eq 21, 3) := by decide +kernel
theorem d_M_node_10 : decode b_M_node 10 = .ok (.iload_n 2, 1) := by decide +kernel
theorem d_M_node_11 : decode b_M_node 11 = .ok (.iconst 0, 1) := by decide +kernel
theorem d_M_node_12 : decode b_M_node 12 = .ok (.iconst 2, 1) := by decide +kernel
theorem d_M_node_13 : decode b_M_node 13 = .ok (.invokestatic 85, 3) := by decide +kernel
theorem d_M_node_16 : decode b_M_node 16 = .ok (.ifCond .eq 12, 3) := by decide +kernel
theorem d_M_node_19 : decode b_M_node 19 = .ok (.aload_n 0, 1) := by decide +kernel
theorem d_M_node_20 : decode b_M_node 20 = .ok (.iload_n 1, 1) := by decide +kernel
theorem d_M_node_21 : decode b_M_node 21 = .ok (.iload_n 2, 1) := by decide +kernel
theorem d_M_node_22 : decode b_M_node 22 = .ok (.invokevirtual 177, 3) := by decide +kernel
theorem d_M_node_25 : decode b_M_node 25 = .ok (.goto 5, 3) := by decide +kernel
theorem d_M_node_28 : decode b_M_node 28 = .ok (.bipush (-2), 2) := by decide +kernel
theorem d_M_node_30 : decode b_M_node 30 = .ok (.ireturn, 1) := by decide +kernel
theorem d_M_factorial_0 : decode b_M_factorial 0 = .ok (.iconst 1, 1) := by decide +kernel
theorem d_M_factorial_1 : decode b_M_factorial 1 = .ok (.istore_n 1, 1) := by decide +kernel
theorem d_M_factorial_2 : decode b_M_factorial 2 = .ok (.iconst 2, 1) := by decide +kernel
theorem d_M_factorial_3 : decode b_M_factorial 3 = .ok (.istore_n 2, 1) := by decide +kernel
theorem d_M_factorial_4 : decode b_M_factorial 4 = .ok (.iload_n 2, 1) := by decide +kernel
theorem d_M_factorial_5 : decode b_M_factorial 5 = .ok (.iload_n 0, 1) := by decide +kernel
theorem d_M_factorial_6 : decode b_M_factorial 6 = .ok (.if_icmp .gt 13, 3) := by decide +kernel
theorem d_M_factorial_9 : decode b_M_factorial 9 = .ok (.iload_n 1, 1) := by decide +kernel
theorem d_M_factorial_10 : decode b_M_factorial 10 = .ok (.iload_n 2, 1) := by decide +kernel
theorem d_M_factorial_11 : decode b_M_factorial 11 = .ok (.imul, 1) := by decide +kernel
theorem d_M_factorial_12 : decode b_M_factorial 12 = .ok (.istore_n 1, 1) := by decide +kernel
theorem d_M_factorial_13 : decode b_M_factorial 13 = .ok (.iinc 2 1, 3) := by decide +kernel
theorem d_M_factorial_16 : decode b_M_factorial 16 = .ok (.goto (-12), 3) := by decide +kernel
theorem d_M_factorial_19 : decode b_M_factorial 19 = .ok (.iload_n 1, 1) := by decide +kernel
theorem d_M_factorial_20 : decode b_M_factorial 20 = .ok (.ireturn, 1) := by decide +kernel
theorem d_M_waysAt_0 : decode b_M_waysAt 0 = .ok (.aload_n 0, 1) := by decide +kernel
theorem d_M_waysAt_1 : decode b_M_waysAt 1 = .ok (.getfield 32, 3) := by decide +kernel
theorem d_M_waysAt_4 : decode b_M_waysAt 4 = .ok (.iload_n 1, 1) := by decide +kernel
theorem d_M_waysAt_5 : decode b_M_waysAt 5 = .ok (.iaload, 1) := by decide +kernel
theorem d_M_waysAt_6 : decode b_M_waysAt 6 = .ok (.iconst 1, 1) := by decide +kernel
theorem d_M_waysAt_7 : decode b_M_waysAt 7 = .ok (.if_icmp .ne 7, 3) := by decide +kernel
theorem d_M_waysAt_10 : decode b_M_waysAt 10 = .ok (.iconst 2, 1) := by decide +kernel
theorem d_M_waysAt_11 : decode b_M_waysAt 11 = .ok (.goto 12, 3) := by decide +kernel
theorem d_M_waysAt_14 : decode b_M_waysAt 14 = .ok (.aload_n 0, 1) := by decide +kernel
theorem d_M_waysAt_15 : decode b_M_waysAt 15 = .ok (.getfield 35, 3) := by decide +kernel
theorem d_M_waysAt_18 : decode b_M_waysAt 18 = .ok (.iload_n 1, 1) := by decide +kernel
theorem d_M_waysAt_19 : decode b_M_waysAt 19 = .ok (.iaload, 1) := by decide +kernel
theorem d_M_waysAt_20 : decode b_M_waysAt 20 = .ok (.invokestatic 180, 3) := by decide +kernel
theorem d_M_waysAt_23 : decode b_M_waysAt 23 = .ok (.ireturn, 1) := by decide +kernel
theorem d_M_orders_0 : decode b_M_orders 0 = .ok (.aload_n 0, 1) := by decide +kernel
theorem d_M_orders_1 : decode b_M_orders 1 = .ok (.getfield 35, 3) := by decide +kernel
theorem d_M_orders_4 : decode b_M_orders 4 = .ok (.iload_n 1, 1) := by decide +kernel
theorem d_M_orders_5 : decode b_M_orders 5 = .ok (.iaload, 1) := by decide +kernel
theorem d_M_orders_6 : decode b_M_orders 6 = .ok (.istore_n 2, 1) := by decide +kernel
theorem d_M_orders_7 : decode b_M_orders 7 = .ok (.aload_n 0, 1) := by decide +kernel
theorem d_M_orders_8 : decode b_M_orders 8 = .ok (.getfield 50, 3) := by decide +kernel
theorem d_M_orders_11 : decode b_M_orders 11 = .ok (.iload_n 1, 1) := by decide +kernel
theorem d_M_orders_12 : decode b_M_orders 12 = .ok (.iaload, 1) := by decide +kernel
theorem d_M_orders_13 : decode b_M_orders 13 = .ok (.istore_n 3, 1) := by decide +kernel
theorem d_M_orders_14 : decode b_M_orders 14 = .ok (.iconst 0, 1) := by decide +kernel
theorem d_M_orders_15 : decode b_M_orders 15 = .ok (.istore 4, 2) := by decide +kernel
theorem d_M_orders_17 : decode b_M_orders 17 = .ok (.iconst 0, 1) := by decide +kernel
theorem d_M_orders_18 : decode b_M_orders 18 = .ok (.istore 5, 2) := by decide +kernel
theorem d_M_orders_20 : decode b_M_orders 20 = .ok (.iload 5, 2) := by decide +kernel
theorem d_M_orders_22 : decode b_M_orders 22 = .ok (.iload_n 2, 1) := by decide +kernel
theorem d_M_orders_23 : decode b_M_orders 23 = .ok (.if_icmp .ge 128, 3) := by decide +kernel
theorem d_M_orders_26 : decode b_M_orders 26 = .ok (.aload_n 0, 1) := by decide +kernel
theorem d_M_orders_27 : decode b_M_orders 27 = .ok (.getfield 32, 3) := by decide +kernel
theorem d_M_orders_30 : decode b_M_orders 30 = .ok (.iload_n 1, 1) := by decide +kernel
theorem d_M_orders_31 : decode b_M_orders 31 = .ok (.iaload, 1) := by decide +kernel
theorem d_M_orders_32 : decode b_M_orders 32 = .ok (.iconst 1, 1) := by decide +kernel
theorem d_M_orders_33 : decode b_M_orders 33 = .ok (.if_icmp .ne 28, 3) := by decide +kernel
theorem d_M_orders_36 : decode b_M_orders 36 = .ok (.aload_n 0, 1) := by decide +kernel
theorem d_M_orders_37 : decode b_M_orders 37 = .ok (.getfield 56, 3) := by decide +kernel
theorem d_M_orders_40 : decode b_M_orders 40 = .ok (.iload 5, 2) := by decide +kernel
theorem d_M_orders_42 : decode b_M_orders 42 = .ok (.iload_n 3, 1) := by decide +kernel
theorem d_M_orders_43 : decode b_M_orders 43 = .ok (.ifCond .ne 8, 3) := by decide +kernel
theorem d_M_orders_46 : decode b_M_orders 46 = .ok (.iload 5, 2) := by decide +kernel
theorem d_M_orders_48 : decode b_M_orders 48 = .ok (.goto 9, 3) := by decide +kernel
theorem d_M_orders_51 : decode b_M_orders 51 = .ok (.iload_n 2, 1) := by decide +kernel
theorem d_M_orders_52 : decode b_M_orders 52 = .ok (.iconst 1, 1) := by decide +kernel
theorem d_M_orders_53 : decode b_M_orders 53 = .ok (.isub, 1) := by decide +kernel
theorem d_M_orders_54 : decode b_M_orders 54 = .ok (.iload 5, 2) := by decide +kernel
theorem d_M_orders_56 : decode b_M_orders 56 = .ok (.isub, 1) := by decide +kernel
theorem d_M_orders_57 : decode b_M_orders 57 = .ok (.iastore, 1) := by decide +kernel
theorem d_M_orders_58 : decode b_M_orders 58 = .ok (.goto 87, 3) := by decide +kernel
theorem d_M_orders_61 : decode b_M_orders 61 = .ok (.iload_n 2, 1) := by decide +kernel
theorem d_M_orders_62 : decode b_M_orders 62 = .ok (.iconst 1, 1) := by decide +kernel
theorem d_M_orders_63 : decode b_M_orders 63 = .ok (.isub, 1) := by decide +kernel
theorem d_M_orders_64 : decode b_M_orders 64 = .ok (.iload 5, 2) := by decide +kernel
theorem d_M_orders_66 : decode b_M_orders 66 = .ok (.isub, 1) := by decide +kernel
theorem d_M_orders_67 : decode b_M_orders 67 = .ok (.invokestatic 180, 3) := by decide +kernel
theorem d_M_orders_70 : decode b_M_orders 70 = .ok (.istore 6, 2) := by decide +kernel
theorem d_M_orders_72 : decode b_M_orders 72 = .ok (.iload_n 3, 1) := by decide +kernel
theorem d_M_orders_73 : decode b_M_orders 73 = .ok (.iload 6, 2) := by decide +kernel
theorem d_M_orders_75 : decode b_M_orders 75 = .ok (.idiv, 1) := by decide +kernel
theorem d_M_orders_76 : decode b_M_orders 76 = .ok (.istore 7, 2) := by decide +kernel
theorem d_M_orders_78 : decode b_M_orders 78 = .ok (.iload_n 3, 1) := by decide +kernel
theorem d_M_orders_79 : decode b_M_orders 79 = .ok (.iload 6, 2) := by decide +kernel
theorem d_M_orders_81 : decode b_M_orders 81 = .ok (.irem, 1) := by decide +kernel
theorem d_M_orders_82 : decode b_M_orders 82 = .ok (.istore_n 3, 1) := by decide +kernel
theorem d_M_orders_83 : decode b_M_orders 83 = .ok (.iconst 0, 1) := by decide +kernel
theorem d_M_orders_84 : decode b_M_orders 84 = .ok (.istore 8, 2) := by decide +kernel
theorem d_M_orders_86 : decode b_M_orders 86 = .ok (.iload 4, 2) := by decide +kernel
theorem d_M_orders_88 : decode b_M_orders 88 = .ok (.iload 8, 2) := by decide +kernel
theorem d_M_orders_90 : decode b_M_orders 90 = .ok (.invokestatic 81, 3) := by decide +kernel
theorem d_M_orders_93 : decode b_M_orders 93 = .ok (.ifCond .ne 8, 3) := by decide +kernel
theorem d_M_orders_96 : decode b_M_orders 96 = .ok (.iload 7, 2) := by decide +kernel
theorem d_M_orders_98 : decode b_M_orders 98 = .ok (.ifCond .le 29, 3) := by decide +kernel
theorem d_M_orders_101 : decode b_M_orders 101 = .ok (.iload 7, 2) := by decide +kernel
theorem d_M_orders_103 : decode b_M_orders 103 = .ok (.iload 4, 2) := by decide +kernel
theorem d_M_orders_105 : decode b_M_orders 105 = .ok (.iload 8, 2) := by decide +kernel
theorem d_M_orders_107 : decode b_M_orders 107 = .ok (.invokestatic 81, 3) := by decide +kernel
theorem d_M_orders_110 : decode b_M_orders 110 = .ok (.ifCond .eq 7, 3) := by decide +kernel
theorem d_M_orders_113 : decode b_M_orders 113 = .ok (.iconst 0, 1) := by decide +kernel
theorem d_M_orders_114 : decode b_M_orders 114 = .ok (.goto 4, 3) := by decide +kernel
theorem d_M_orders_117 : decode b_M_orders 117 = .ok (.iconst 1, 1) := by decide +kernel
theorem d_M_orders_118 : decode b_M_orders 118 = .ok (.isub, 1) := by decide +kernel
theorem d_M_orders_119 : decode b_M_orders 119 = .ok (.istore 7, 2) := by decide +kernel
theorem d_M_orders_121 : decode b_M_orders 121 = .ok (.iinc 8 1, 3) := by decide +kernel
theorem d_M_orders_124 : decode b_M_orders 124 = .ok (.goto (-38), 3) := by decide +kernel
theorem d_M_orders_127 : decode b_M_orders 127 = .ok (.iload 4, 2) := by decide +kernel
theorem d_M_orders_129 : decode b_M_orders 129 = .ok (.iconst 1, 1) := by decide +kernel
theorem d_M_orders_130 : decode b_M_orders 130 = .ok (.iload 8, 2) := by decide +kernel
theorem d_M_orders_132 : decode b_M_orders 132 = .ok (.ishl, 1) := by decide +kernel
theorem d_M_orders_133 : decode b_M_orders 133 = .ok (.ior, 1) := by decide +kernel
theorem d_M_orders_134 : decode b_M_orders 134 = .ok (.istore 4, 2) := by decide +kernel
theorem d_M_orders_136 : decode b_M_orders 136 = .ok (.aload_n 0, 1) := by decide +kernel
theorem d_M_orders_137 : decode b_M_orders 137 = .ok (.getfield 56, 3) := by decide +kernel
theorem d_M_orders_140 : decode b_M_orders 140 = .ok (.iload 5, 2) := by decide +kernel
theorem d_M_orders_142 : decode b_M_orders 142 = .ok (.iload 8, 2) := by decide +kernel
theorem d_M_orders_144 : decode b_M_orders 144 = .ok (.iastore, 1) := by decide +kernel
theorem d_M_orders_145 : decode b_M_orders 145 = .ok (.iinc 5 1, 3) := by decide +kernel
theorem d_M_orders_148 : decode b_M_orders 148 = .ok (.goto (-128), 3) := by decide +kernel
theorem d_M_orders_151 : decode b_M_orders 151 = .ok (.return_, 1) := by decide +kernel
theorem d_M_findsRow_0 : decode b_M_findsRow 0 = .ok (.iload_n 1, 1) := by decide +kernel
theorem d_M_findsRow_1 : decode b_M_findsRow 1 = .ok (.istore_n 2, 1) := by decide +kernel
theorem d_M_findsRow_2 : decode b_M_findsRow 2 = .ok (.aload_n 0, 1) := by decide +kernel
theorem d_M_findsRow_3 : decode b_M_findsRow 3 = .ok (.getfield 156, 3) := by decide +kernel
theorem d_M_findsRow_6 : decode b_M_findsRow 6 = .ok (.iconst 1, 1) := by decide +kernel
theorem d_M_findsRow_7 : decode b_M_findsRow 7 = .ok (.isub, 1) := by decide +kernel
theorem d_M_findsRow_8 : decode b_M_findsRow 8 = .ok (.istore_n 3, 1) := by decide +kernel
theorem d_M_findsRow_9 : decode b_M_findsRow 9 = .ok (.iload_n 3, 1) := by decide +kernel
theorem d_M_findsRow_10 : decode b_M_findsRow 10 = .ok (.ifCond .lt 30, 3) := by decide +kernel
theorem d_M_findsRow_13 : decode b_M_findsRow 13 = .ok (.aload_n 0, 1) := by decide +kernel
theorem d_M_findsRow_14 : decode b_M_findsRow 14 = .ok (.getfield 50, 3) := by decide +kernel
theorem d_M_findsRow_17 : decode b_M_findsRow 17 = .ok (.iload_n 3, 1) := by decide +kernel
theorem d_M_findsRow_18 : decode b_M_findsRow 18 = .ok (.iload_n 2, 1) := by decide +kernel
theorem d_M_findsRow_19 : decode b_M_findsRow 19 = .ok (.aload_n 0, 1) := by decide +kernel
theorem d_M_findsRow_20 : decode b_M_findsRow 20 = .ok (.iload_n 3, 1) := by decide +kernel
theorem d_M_findsRow_21 : decode b_M_findsRow 21 = .ok (.invokevirtual 183, 3) := by decide +kernel
theorem d_M_findsRow_24 : decode b_M_findsRow 24 = .ok (.irem, 1) := by decide +kernel
theorem d_M_findsRow_25 : decode b_M_findsRow 25 = .ok (.iastore, 1) := by decide +kernel
theorem d_M_findsRow_26 : decode b_M_findsRow 26 = .ok (.iload_n 2, 1) := by decide +kernel
theorem d_M_findsRow_27 : decode b_M_findsRow 27 = .ok (.aload_n 0, 1) := by decide +kernel
theorem d_M_findsRow_28 : decode b_M_findsRow 28 = .ok (.iload_n 3, 1) := by decide +kernel
theorem d_M_findsRow_29 : decode b_M_findsRow 29 = .ok (.invokevirtual 183, 3) := by decide +kernel
theorem d_M_findsRow_32 : decode b_M_findsRow 32 = .ok (.idiv, 1) := by decide +kernel
theorem d_M_findsRow_33 : decode b_M_findsRow 33 = .ok (.istore_n 2, 1) := by decide +kernel
theorem d_M_findsRow_34 : decode b_M_findsRow 34 = .ok (.iinc 3 (-1), 3) := by decide +kernel
theorem d_M_findsRow_37 : decode b_M_findsRow 37 = .ok (.goto (-28), 3) := by decide +kernel
theorem d_M_findsRow_40 : decode b_M_findsRow 40 = .ok (.aload_n 0, 1) := by decide +kernel
theorem d_M_findsRow_41 : decode b_M_findsRow 41 = .ok (.getfield 47, 3) := by decide +kernel
theorem d_M_findsRow_44 : decode b_M_findsRow 44 = .ok (.iconst 0, 1) := by decide +kernel
theorem d_M_findsRow_45 : decode b_M_findsRow 45 = .ok (.aload_n 0, 1) := by decide +kernel
theorem d_M_findsRow_46 : decode b_M_findsRow 46 = .ok (.invokevirtual 110, 3) := by decide +kernel
theorem d_M_findsRow_49 : decode b_M_findsRow 49 = .ok (.iastore, 1) := by decide +kernel
theorem d_M_findsRow_50 : decode b_M_findsRow 50 = .ok (.iconst 1, 1) := by decide +kernel
theorem d_M_findsRow_51 : decode b_M_findsRow 51 = .ok (.istore_n 3, 1) := by decide +kernel
theorem d_M_findsRow_52 : decode b_M_findsRow 52 = .ok (.iconst 0, 1) := by decide +kernel
theorem d_M_findsRow_53 : decode b_M_findsRow 53 = .ok (.istore 4, 2) := by decide +kernel
theorem d_M_findsRow_55 : decode b_M_findsRow 55 = .ok (.iload_n 3, 1) := by decide +kernel
theorem d_M_findsRow_56 : decode b_M_findsRow 56 = .ok (.ifCond .le 107, 3) := by decide +kernel
theorem d_M_findsRow_59 : decode b_M_findsRow 59 = .ok (.iinc 3 (-1), 3) := by decide +kernel
theorem d_M_findsRow_62 : decode b_M_findsRow 62 = .ok (.aload_n 0, 1) := by decide +kernel
theorem d_M_findsRow_63 : decode b_M_findsRow 63 = .ok (.getfield 47, 3) := by decide +kernel
theorem d_M_findsRow_66 : decode b_M_findsRow 66 = .ok (.iload_n 3, 1) := by decide +kernel
theorem d_M_findsRow_67 : decode b_M_findsRow 67 = .ok (.iaload, 1) := by decide +kernel
theorem d_M_findsRow_68 : decode b_M_findsRow 68 = .ok (.istore 5, 2) := by decide +kernel
theorem d_M_findsRow_70 : decode b_M_findsRow 70 = .ok (.iload 5, 2) := by decide +kernel
theorem d_M_findsRow_72 : decode b_M_findsRow 72 = .ok (.invokestatic 89, 3) := by decide +kernel
theorem d_M_findsRow_75 : decode b_M_findsRow 75 = .ok (.iconst 1, 1) := by decide +kernel
theorem d_M_findsRow_76 : decode b_M_findsRow 76 = .ok (.if_icmp .ne 21, 3) := by decide +kernel
theorem d_M_findsRow_79 : decode b_M_findsRow 79 = .ok (.aload_n 0, 1) := by decide +kernel
theorem d_M_findsRow_80 : decode b_M_findsRow 80 = .ok (.getfield 53, 3) := by decide +kernel
theorem d_M_findsRow_83 : decode b_M_findsRow 83 = .ok (.iload 4, 2) := by decide +kernel
theorem d_M_findsRow_85 : decode b_M_findsRow 85 = .ok (.iload 5, 2) := by decide +kernel
theorem d_M_findsRow_87 : decode b_M_findsRow 87 = .ok (.invokestatic 142, 3) := by decide +kernel
theorem d_M_findsRow_90 : decode b_M_findsRow 90 = .ok (.iastore, 1) := by decide +kernel
theorem d_M_findsRow_91 : decode b_M_findsRow 91 = .ok (.iinc 4 1, 3) := by decide +kernel
theorem d_M_findsRow_94 : decode b_M_findsRow 94 = .ok (.goto 66, 3) := by decide +kernel
theorem d_M_findsRow_97 : decode b_M_findsRow 97 = .ok (.aload_n 0, 1) := by decide +kernel
theorem d_M_findsRow_98 : decode b_M_findsRow 98 = .ok (.iload 5, 2) := by decide +kernel
theorem d_M_findsRow_100 : decode b_M_findsRow 100 = .ok (.invokevirtual 186, 3) := by decide +kernel
theorem d_M_findsRow_103 : decode b_M_findsRow 103 = .ok (.istore 6, 2) := by decide +kernel
theorem d_M_findsRow_105 : decode b_M_findsRow 105 = .ok (.aload_n 0, 1) := by decide +kernel
theorem d_M_findsRow_106 : decode b_M_findsRow 106 = .ok (.iload 6, 2) := by decide +kernel
theorem d_M_findsRow_108 : decode b_M_findsRow 108 = .ok (.invokevirtual 189, 3) := by decide +kernel
theorem d_M_findsRow_111 : decode b_M_findsRow 111 = .ok (.aload_n 0, 1) := by decide +kernel
theorem d_M_findsRow_112 : decode b_M_findsRow 112 = .ok (.getfield 35, 3) := by decide +kernel
theorem d_M_findsRow_115 : decode b_M_findsRow 115 = .ok (.iload 6, 2) := by decide +kernel
theorem d_M_findsRow_117 : decode b_M_findsRow 117 = .ok (.iaload, 1) := by decide +kernel
theorem d_M_findsRow_118 : decode b_M_findsRow 118 = .ok (.iconst 1, 1) := by decide +kernel
theorem d_M_findsRow_119 : decode b_M_findsRow 119 = .ok (.isub, 1) := by decide +kernel
theorem d_M_findsRow_120 : decode b_M_findsRow 120 = .ok (.istore 7, 2) := by decide +kernel
theorem d_M_findsRow_122 : decode b_M_findsRow 122 = .ok (.iload 7, 2) := by decide +kernel
theorem d_M_findsRow_124 : decode b_M_findsRow 124 = .ok (.ifCond .lt 36, 3) := by decide +kernel
theorem d_M_findsRow_127 : decode b_M_findsRow 127 = .ok (.aload_n 0, 1) := by decide +kernel
theorem d_M_findsRow_128 : decode b_M_findsRow 128 = .ok (.getfield 47, 3) := by decide +kernel
theorem d_M_findsRow_131 : decode b_M_findsRow 131 = .ok (.iload_n 3, 1) := by decide +kernel
theorem d_M_findsRow_132 : decode b_M_findsRow 132 = .ok (.aload_n 0, 1) := by decide +kernel
theorem d_M_findsRow_133 : decode b_M_findsRow 133 = .ok (.getfield 38, 3) := by decide +kernel
theorem d_M_findsRow_136 : decode b_M_findsRow 136 = .ok (.bipush 8, 2) := by decide +kernel
theorem d_M_findsRow_138 : decode b_M_findsRow 138 = .ok (.iload 6, 2) := by decide +kernel
theorem d_M_findsRow_140 : decode b_M_findsRow 140 = .ok (.imul, 1) := by decide +kernel
theorem d_M_findsRow_141 : decode b_M_findsRow 141 = .ok (.aload_n 0, 1) := by decide +kernel
theorem d_M_findsRow_142 : decode b_M_findsRow 142 = .ok (.getfield 56, 3) := by decide +kernel
theorem d_M_findsRow_145 : decode b_M_findsRow 145 = .ok (.iload 7, 2) := by decide +kernel
theorem d_M_findsRow_147 : decode b_M_findsRow 147 = .ok (.iaload, 1) := by decide +kernel
theorem d_M_findsRow_148 : decode b_M_findsRow 148 = .ok (.iadd, 1) := by decide +kernel
theorem d_M_findsRow_149 : decode b_M_findsRow 149 = .ok (.iaload, 1) := by decide +kernel
theorem d_M_findsRow_150 : decode b_M_findsRow 150 = .ok (.iastore, 1) := by decide +kernel
theorem d_M_findsRow_151 : decode b_M_findsRow 151 = .ok (.iinc 3 1, 3) := by decide +kernel
theorem d_M_findsRow_154 : decode b_M_findsRow 154 = .ok (.iinc 7 (-1), 3) := by decide +kernel
theorem d_M_findsRow_157 : decode b_M_findsRow 157 = .ok (.goto (-35), 3) := by decide +kernel
theorem d_M_findsRow_160 : decode b_M_findsRow 160 = .ok (.goto (-105), 3) := by decide +kernel
theorem d_M_findsRow_163 : decode b_M_findsRow 163 = .ok (.return_, 1) := by decide +kernel
theorem d_M_rowOf_0 : decode b_M_rowOf 0 = .ok (.iload_n 1, 1) := by decide +kernel
theorem d_M_rowOf_1 : decode b_M_rowOf 1 = .ok (.aload_n 0, 1) := by decide +kernel
theorem d_M_rowOf_2 : decode b_M_rowOf 2 = .ok (.invokevirtual 127, 3) := by decide +kernel
theorem d_M_rowOf_5 : decode b_M_rowOf 5 = .ok (.if_icmp .ge 11, 3) := by decide +kernel
theorem d_M_rowOf_8 : decode b_M_rowOf 8 = .ok (.iload_n 2, 1) := by decide +kernel
theorem d_M_rowOf_9 : decode b_M_rowOf 9 = .ok (.aload_n 0, 1) := by decide +kernel
theorem d_M_rowOf_10 : decode b_M_rowOf 10 = .ok (.getfield 7, 3) := by decide +kernel
theorem d_M_rowOf_13 : decode b_M_rowOf 13 = .ok (.if_icmp .lt 5, 3) := by decide +kernel
theorem d_M_rowOf_16 : decode b_M_rowOf 16 = .ok (.iconst (-1), 1) := by decide +kernel
theorem d_M_rowOf_17 : decode b_M_rowOf 17 = .ok (.ireturn, 1) := by decide +kernel
theorem d_M_rowOf_18 : decode b_M_rowOf 18 = .ok (.aload_n 0, 1) := by decide +kernel
theorem d_M_rowOf_19 : decode b_M_rowOf 19 = .ok (.invokevirtual 171, 3) := by decide +kernel
theorem d_M_rowOf_22 : decode b_M_rowOf 22 = .ok (.aload_n 0, 1) := by decide +kernel
theorem d_M_rowOf_23 : decode b_M_rowOf 23 = .ok (.iload_n 1, 1) := by decide +kernel
theorem d_M_rowOf_24 : decode b_M_rowOf 24 = .ok (.invokevirtual 192, 3) := by decide +kernel
theorem d_M_rowOf_27 : decode b_M_rowOf 27 = .ok (.aload_n 0, 1) := by decide +kernel
theorem d_M_rowOf_28 : decode b_M_rowOf 28 = .ok (.getfield 53, 3) := by decide +kernel
