theorem d_L_0 : decode code 0 = .ok (.new 7, 3) := by decide +kernel
theorem d_L_3 : decode code 3 = .ok (.dup, 1) := by decide +kernel
theorem d_L_4 : decode code 4 = .ok (.invokespecial 9, 3) := by decide +kernel
theorem d_L_7 : decode code 7 = .ok (.astore_n 1, 1) := by decide +kernel
theorem d_L_8 : decode code 8 = .ok (.new 10, 3) := by decide +kernel
theorem d_L_11 : decode code 11 = .ok (.dup, 1) := by decide +kernel
theorem d_L_12 : decode code 12 = .ok (.invokespecial 12, 3) := by decide +kernel
theorem d_L_15 : decode code 15 = .ok (.astore_n 2, 1) := by decide +kernel
theorem d_L_16 : decode code 16 = .ok (.iconst 0, 1) := by decide +kernel
theorem d_L_17 : decode code 17 = .ok (.istore_n 3, 1) := by decide +kernel
theorem d_L_18 : decode code 18 = .ok (.iload_n 3, 1) := by decide +kernel
theorem d_L_19 : decode code 19 = .ok (.aload_n 0, 1) := by decide +kernel
theorem d_L_20 : decode code 20 = .ok (.arraylength, 1) := by decide +kernel
theorem d_L_21 : decode code 21 = .ok (.bipush 6, 2) := by decide +kernel
theorem d_L_23 : decode code 23 = .ok (.isub, 1) := by decide +kernel
theorem d_L_24 : decode code 24 = .ok (.if_icmp .gt 858, 3) := by decide +kernel
theorem d_L_27 : decode code 27 = .ok (.aload_n 0, 1) := by decide +kernel
theorem d_L_28 : decode code 28 = .ok (.iload_n 3, 1) := by decide +kernel
theorem d_L_29 : decode code 29 = .ok (.iaload, 1) := by decide +kernel
theorem d_L_30 : decode code 30 = .ok (.bipush 31, 2) := by decide +kernel
theorem d_L_32 : decode code 32 = .ok (.iand, 1) := by decide +kernel
theorem d_L_33 : decode code 33 = .ok (.tableswitch 843 0 27 #[127, 150, 173, 186, 209, 232, 255, 269, 292, 325, 358, 381, 404, 447, 460, 483, 496, 509, 522, 535, 548, 591, 614, 667, 710, 773, 806, 829], 127) := by decide +kernel
theorem d_L_160 : decode code 160 = .ok (.aload_n 1, 1) := by decide +kernel
theorem d_L_161 : decode code 161 = .ok (.aload_n 0, 1) := by decide +kernel
theorem d_L_162 : decode code 162 = .ok (.iload_n 3, 1) := by decide +kernel
theorem d_L_163 : decode code 163 = .ok (.iconst 1, 1) := by decide +kernel
theorem d_L_164 : decode code 164 = .ok (.iadd, 1) := by decide +kernel
theorem d_L_165 : decode code 165 = .ok (.iaload, 1) := by decide +kernel
theorem d_L_166 : decode code 166 = .ok (.invokevirtual 13, 3) := by decide +kernel
theorem d_L_169 : decode code 169 = .ok (.aload_n 2, 1) := by decide +kernel
theorem d_L_170 : decode code 170 = .ok (.aload_n 0, 1) := by decide +kernel
theorem d_L_171 : decode code 171 = .ok (.iload_n 3, 1) := by decide +kernel
theorem d_L_172 : decode code 172 = .ok (.iconst 1, 1) := by decide +kernel
theorem d_L_173 : decode code 173 = .ok (.iadd, 1) := by decide +kernel
theorem d_L_174 : decode code 174 = .ok (.iaload, 1) := by decide +kernel
theorem d_L_175 : decode code 175 = .ok (.invokevirtual 17, 3) := by decide +kernel
theorem d_L_178 : decode code 178 = .ok (.if_icmp .eq 698, 3) := by decide +kernel
theorem d_L_181 : decode code 181 = .ok (.iconst 0, 1) := by decide +kernel
theorem d_L_182 : decode code 182 = .ok (.ireturn, 1) := by decide +kernel
theorem d_L_183 : decode code 183 = .ok (.aload_n 1, 1) := by decide +kernel
theorem d_L_184 : decode code 184 = .ok (.aload_n 0, 1) := by decide +kernel
theorem d_L_185 : decode code 185 = .ok (.iload_n 3, 1) := by decide +kernel
theorem d_L_186 : decode code 186 = .ok (.iconst 1, 1) := by decide +kernel
theorem d_L_187 : decode code 187 = .ok (.iadd, 1) := by decide +kernel
theorem d_L_188 : decode code 188 = .ok (.iaload, 1) := by decide +kernel
theorem d_L_189 : decode code 189 = .ok (.invokevirtual 18, 3) := by decide +kernel
theorem d_L_192 : decode code 192 = .ok (.aload_n 2, 1) := by decide +kernel
theorem d_L_193 : decode code 193 = .ok (.aload_n 0, 1) := by decide +kernel
theorem d_L_194 : decode code 194 = .ok (.iload_n 3, 1) := by decide +kernel
theorem d_L_195 : decode code 195 = .ok (.iconst 1, 1) := by decide +kernel
theorem d_L_196 : decode code 196 = .ok (.iadd, 1) := by decide +kernel
theorem d_L_197 : decode code 197 = .ok (.iaload, 1) := by decide +kernel
theorem d_L_198 : decode code 198 = .ok (.invokevirtual 21, 3) := by decide +kernel
theorem d_L_201 : decode code 201 = .ok (.if_icmp .eq 675, 3) := by decide +kernel
theorem d_L_204 : decode code 204 = .ok (.iconst 0, 1) := by decide +kernel
theorem d_L_205 : decode code 205 = .ok (.ireturn, 1) := by decide +kernel
theorem d_L_206 : decode code 206 = .ok (.aload_n 1, 1) := by decide +kernel
theorem d_L_207 : decode code 207 = .ok (.invokevirtual 22, 3) := by decide +kernel
theorem d_L_210 : decode code 210 = .ok (.aload_n 2, 1) := by decide +kernel
theorem d_L_211 : decode code 211 = .ok (.invokevirtual 26, 3) := by decide +kernel
theorem d_L_214 : decode code 214 = .ok (.if_icmp .eq 662, 3) := by decide +kernel
theorem d_L_217 : decode code 217 = .ok (.iconst 0, 1) := by decide +kernel
theorem d_L_218 : decode code 218 = .ok (.ireturn, 1) := by decide +kernel
theorem d_L_219 : decode code 219 = .ok (.aload_n 1, 1) := by decide +kernel
theorem d_L_220 : decode code 220 = .ok (.aload_n 0, 1) := by decide +kernel
theorem d_L_221 : decode code 221 = .ok (.iload_n 3, 1) := by decide +kernel
theorem d_L_222 : decode code 222 = .ok (.iconst 1, 1) := by decide +kernel
theorem d_L_223 : decode code 223 = .ok (.iadd, 1) := by decide +kernel
theorem d_L_224 : decode code 224 = .ok (.iaload, 1) := by decide +kernel
theorem d_L_225 : decode code 225 = .ok (.invokevirtual 27, 3) := by decide +kernel
theorem d_L_228 : decode code 228 = .ok (.aload_n 2, 1) := by decide +kernel
theorem d_L_229 : decode code 229 = .ok (.aload_n 0, 1) := by decide +kernel
theorem d_L_230 : decode code 230 = .ok (.iload_n 3, 1) := by decide +kernel
theorem d_L_231 : decode code 231 = .ok (.iconst 1, 1) := by decide +kernel
theorem d_L_232 : decode code 232 = .ok (.iadd, 1) := by decide +kernel
theorem d_L_233 : decode code 233 = .ok (.iaload, 1) := by decide +kernel
theorem d_L_234 : decode code 234 = .ok (.invokevirtual 30, 3) := by decide +kernel
theorem d_L_237 : decode code 237 = .ok (.if_icmp .eq 639, 3) := by decide +kernel
theorem d_L_240 : decode code 240 = .ok (.iconst 0, 1) := by decide +kernel
theorem d_L_241 : decode code 241 = .ok (.ireturn, 1) := by decide +kernel
theorem d_L_242 : decode code 242 = .ok (.aload_n 1, 1) := by decide +kernel
theorem d_L_243 : decode code 243 = .ok (.aload_n 0, 1) := by decide +kernel
theorem d_L_244 : decode code 244 = .ok (.iload_n 3, 1) := by decide +kernel
theorem d_L_245 : decode code 245 = .ok (.iconst 1, 1) := by decide +kernel
theorem d_L_246 : decode code 246 = .ok (.iadd, 1) := by decide +kernel
theorem d_L_247 : decode code 247 = .ok (.iaload, 1) := by decide +kernel
theorem d_L_248 : decode code 248 = .ok (.invokevirtual 31, 3) := by decide +kernel
theorem d_L_251 : decode code 251 = .ok (.aload_n 2, 1) := by decide +kernel
theorem d_L_252 : decode code 252 = .ok (.aload_n 0, 1) := by decide +kernel
theorem d_L_253 : decode code 253 = .ok (.iload_n 3, 1) := by decide +kernel
theorem d_L_254 : decode code 254 = .ok (.iconst 1, 1) := by decide +kernel
theorem d_L_255 : decode code 255 = .ok (.iadd, 1) := by decide +kernel
theorem d_L_256 : decode code 256 = .ok (.iaload, 1) := by decide +kernel
theorem d_L_257 : decode code 257 = .ok (.invokevirtual 34, 3) := by decide +kernel
theorem d_L_260 : decode code 260 = .ok (.if_icmp .eq 616, 3) := by decide +kernel
theorem d_L_263 : decode code 263 = .ok (.iconst 0, 1) := by decide +kernel
theorem d_L_264 : decode code 264 = .ok (.ireturn, 1) := by decide +kernel
theorem d_L_265 : decode code 265 = .ok (.aload_n 1, 1) := by decide +kernel
theorem d_L_266 : decode code 266 = .ok (.aload_n 0, 1) := by decide +kernel
theorem d_L_267 : decode code 267 = .ok (.iload_n 3, 1) := by decide +kernel
theorem d_L_268 : decode code 268 = .ok (.iconst 1, 1) := by decide +kernel
theorem d_L_269 : decode code 269 = .ok (.iadd, 1) := by decide +kernel
theorem d_L_270 : decode code 270 = .ok (.iaload, 1) := by decide +kernel
theorem d_L_271 : decode code 271 = .ok (.invokevirtual 35, 3) := by decide +kernel
theorem d_L_274 : decode code 274 = .ok (.aload_n 2, 1) := by decide +kernel
theorem d_L_275 : decode code 275 = .ok (.aload_n 0, 1) := by decide +kernel
theorem d_L_276 : decode code 276 = .ok (.iload_n 3, 1) := by decide +kernel
theorem d_L_277 : decode code 277 = .ok (.iconst 1, 1) := by decide +kernel
theorem d_L_278 : decode code 278 = .ok (.iadd, 1) := by decide +kernel
theorem d_L_279 : decode code 279 = .ok (.iaload, 1) := by decide +kernel
theorem d_L_280 : decode code 280 = .ok (.invokevirtual 38, 3) := by decide +kernel
theorem d_L_283 : decode code 283 = .ok (.if_icmp .eq 593, 3) := by decide +kernel
theorem d_L_286 : decode code 286 = .ok (.iconst 0, 1) := by decide +kernel
theorem d_L_287 : decode code 287 = .ok (.ireturn, 1) := by decide +kernel
theorem d_L_288 : decode code 288 = .ok (.aload_n 1, 1) := by decide +kernel
theorem d_L_289 : decode code 289 = .ok (.invokevirtual 39, 3) := by decide +kernel
theorem d_L_292 : decode code 292 = .ok (.aload_n 2, 1) := by decide +kernel
theorem d_L_293 : decode code 293 = .ok (.invokevirtual 43, 3) := by decide +kernel
theorem d_L_296 : decode code 296 = .ok (.lcmp, 1) := by decide +kernel
theorem d_L_297 : decode code 297 = .ok (.ifCond .eq 579, 3) := by decide +kernel
theorem d_L_300 : decode code 300 = .ok (.iconst 0, 1) := by decide +kernel
theorem d_L_301 : decode code 301 = .ok (.ireturn, 1) := by decide +kernel
theorem d_L_302 : decode code 302 = .ok (.aload_n 1, 1) := by decide +kernel
theorem d_L_303 : decode code 303 = .ok (.aload_n 0, 1) := by decide +kernel
theorem d_L_304 : decode code 304 = .ok (.iload_n 3, 1) := by decide +kernel
theorem d_L_305 : decode code 305 = .ok (.iconst 1, 1) := by decide +kernel
theorem d_L_306 : decode code 306 = .ok (.iadd, 1) := by decide +kernel
theorem d_L_307 : decode code 307 = .ok (.iaload, 1) := by decide +kernel
theorem d_L_308 : decode code 308 = .ok (.invokevirtual 44, 3) := by decide +kernel
theorem d_L_311 : decode code 311 = .ok (.aload_n 2, 1) := by decide +kernel
theorem d_L_312 : decode code 312 = .ok (.aload_n 0, 1) := by decide +kernel
theorem d_L_313 : decode code 313 = .ok (.iload_n 3, 1) := by decide +kernel
theorem d_L_314 : decode code 314 = .ok (.iconst 1, 1) := by decide +kernel
theorem d_L_315 : decode code 315 = .ok (.iadd, 1) := by decide +kernel
theorem d_L_316 : decode code 316 = .ok (.iaload, 1) := by decide +kernel
theorem d_L_317 : decode code 317 = .ok (.invokevirtual 47, 3) := by decide +kernel
theorem d_L_320 : decode code 320 = .ok (.if_icmp .eq 556, 3) := by decide +kernel
theorem d_L_323 : decode code 323 = .ok (.iconst 0, 1) := by decide +kernel
theorem d_L_324 : decode code 324 = .ok (.ireturn, 1) := by decide +kernel
theorem d_L_325 : decode code 325 = .ok (.aload_n 1, 1) := by decide +kernel
theorem d_L_326 : decode code 326 = .ok (.aload_n 0, 1) := by decide +kernel
theorem d_L_327 : decode code 327 = .ok (.iload_n 3, 1) := by decide +kernel
theorem d_L_328 : decode code 328 = .ok (.iconst 1, 1) := by decide +kernel
theorem d_L_329 : decode code 329 = .ok (.iadd, 1) := by decide +kernel
theorem d_L_330 : decode code 330 = .ok (.iaload, 1) := by decide +kernel
theorem d_L_331 : decode code 331 = .ok (.aload_n 0, 1) := by decide +kernel
theorem d_L_332 : decode code 332 = .ok (.iload_n 3, 1) := by decide +kernel
theorem d_L_333 : decode code 333 = .ok (.iconst 2, 1) := by decide +kernel
theorem d_L_334 : decode code 334 = .ok (.iadd, 1) := by decide +kernel
theorem d_L_335 : decode code 335 = .ok (.iaload, 1) := by decide +kernel
theorem d_L_336 : decode code 336 = .ok (.invokevirtual 48, 3) := by decide +kernel
theorem d_L_339 : decode code 339 = .ok (.aload_n 2, 1) := by decide +kernel
theorem d_L_340 : decode code 340 = .ok (.aload_n 0, 1) := by decide +kernel
theorem d_L_341 : decode code 341 = .ok (.iload_n 3, 1) := by decide +kernel
theorem d_L_342 : decode code 342 = .ok (.iconst 1, 1) := by decide +kernel
theorem d_L_343 : decode code 343 = .ok (.iadd, 1) := by decide +kernel
theorem d_L_344 : decode code 344 = .ok (.iaload, 1) := by decide +kernel
theorem d_L_345 : decode code 345 = .ok (.aload_n 0, 1) := by decide +kernel
theorem d_L_346 : decode code 346 = .ok (.iload_n 3, 1) := by decide +kernel
theorem d_L_347 : decode code 347 = .ok (.iconst 2, 1) := by decide +kernel
theorem d_L_348 : decode code 348 = .ok (.iadd, 1) := by decide +kernel
theorem d_L_349 : decode code 349 = .ok (.iaload, 1) := by decide +kernel
theorem d_L_350 : decode code 350 = .ok (.invokevirtual 52, 3) := by decide +kernel
theorem d_L_353 : decode code 353 = .ok (.if_icmp .eq 523, 3) := by decide +kernel
theorem d_L_356 : decode code 356 = .ok (.iconst 0, 1) := by decide +kernel
theorem d_L_357 : decode code 357 = .ok (.ireturn, 1) := by decide +kernel
theorem d_L_358 : decode code 358 = .ok (.aload_n 1, 1) := by decide +kernel
theorem d_L_359 : decode code 359 = .ok (.aload_n 0, 1) := by decide +kernel
theorem d_L_360 : decode code 360 = .ok (.iload_n 3, 1) := by decide +kernel
theorem d_L_361 : decode code 361 = .ok (.iconst 1, 1) := by decide +kernel
theorem d_L_362 : decode code 362 = .ok (.iadd, 1) := by decide +kernel
theorem d_L_363 : decode code 363 = .ok (.iaload, 1) := by decide +kernel
theorem d_L_364 : decode code 364 = .ok (.aload_n 0, 1) := by decide +kernel
theorem d_L_365 : decode code 365 = .ok (.iload_n 3, 1) := by decide +kernel
theorem d_L_366 : decode code 366 = .ok (.iconst 2, 1) := by decide +kernel
theorem d_L_367 : decode code 367 = .ok (.iadd, 1) := by decide +kernel
theorem d_L_368 : decode code 368 = .ok (.iaload, 1) := by decide +kernel
theorem d_L_369 : decode code 369 = .ok (.invokevirtual 53, 3) := by decide +kernel
theorem d_L_372 : decode code 372 = .ok (.aload_n 2, 1) := by decide +kernel
theorem d_L_373 : decode code 373 = .ok (.aload_n 0, 1) := by decide +kernel
theorem d_L_374 : decode code 374 = .ok (.iload_n 3, 1) := by decide +kernel
theorem d_L_375 : decode code 375 = .ok (.iconst 1, 1) := by decide +kernel
theorem d_L_376 : decode code 376 = .ok (.iadd, 1) := by decide +kernel
theorem d_L_377 : decode code 377 = .ok (.iaload, 1) := by decide +kernel
theorem d_L_378 : decode code 378 = .ok (.aload_n 0, 1) := by decide +kernel
theorem d_L_379 : decode code 379 = .ok (.iload_n 3, 1) := by decide +kernel
theorem d_L_380 : decode code 380 = .ok (.iconst 2, 1) := by decide +kernel
theorem d_L_381 : decode code 381 = .ok (.iadd, 1) := by decide +kernel
theorem d_L_382 : decode code 382 = .ok (.iaload, 1) := by decide +kernel
theorem d_L_383 : decode code 383 = .ok (.invokevirtual 56, 3) := by decide +kernel
theorem d_L_386 : decode code 386 = .ok (.if_icmp .eq 490, 3) := by decide +kernel
theorem d_L_389 : decode code 389 = .ok (.iconst 0, 1) := by decide +kernel
theorem d_L_390 : decode code 390 = .ok (.ireturn, 1) := by decide +kernel
theorem d_L_391 : decode code 391 = .ok (.aload_n 1, 1) := by decide +kernel
theorem d_L_392 : decode code 392 = .ok (.aload_n 0, 1) := by decide +kernel
theorem d_L_393 : decode code 393 = .ok (.iload_n 3, 1) := by decide +kernel
theorem d_L_394 : decode code 394 = .ok (.iconst 1, 1) := by decide +kernel
theorem d_L_395 : decode code 395 = .ok (.iadd, 1) := by decide +kernel
theorem d_L_396 : decode code 396 = .ok (.iaload, 1) := by decide +kernel
theorem d_L_397 : decode code 397 = .ok (.invokevirtual 57, 3) := by decide +kernel
theorem d_L_400 : decode code 400 = .ok (.aload_n 2, 1) := by decide +kernel
theorem d_L_401 : decode code 401 = .ok (.aload_n 0, 1) := by decide +kernel
theorem d_L_402 : decode code 402 = .ok (.iload_n 3, 1) := by decide +kernel
theorem d_L_403 : decode code 403 = .ok (.iconst 1, 1) := by decide +kernel
theorem d_L_404 : decode code 404 = .ok (.iadd, 1) := by decide +kernel
theorem d_L_405 : decode code 405 = .ok (.iaload, 1) := by decide +kernel
theorem d_L_406 : decode code 406 = .ok (.invokevirtual 60, 3) := by decide +kernel
theorem d_L_409 : decode code 409 = .ok (.if_icmp .eq 467, 3) := by decide +kernel
theorem d_L_412 : decode code 412 = .ok (.iconst 0, 1) := by decide +kernel
theorem d_L_413 : decode code 413 = .ok (.ireturn, 1) := by decide +kernel
theorem d_L_414 : decode code 414 = .ok (.aload_n 1, 1) := by decide +kernel
theorem d_L_415 : decode code 415 = .ok (.aload_n 0, 1) := by decide +kernel
theorem d_L_416 : decode code 416 = .ok (.iload_n 3, 1) := by decide +kernel
theorem d_L_417 : decode code 417 = .ok (.iconst 1, 1) := by decide +kernel
theorem d_L_418 : decode code 418 = .ok (.iadd, 1) := by decide +kernel
theorem d_L_419 : decode code 419 = .ok (.iaload, 1) := by decide +kernel
theorem d_L_420 : decode code 420 = .ok (.invokevirtual 61, 3) := by decide +kernel
theorem d_L_423 : decode code 423 = .ok (.aload_n 2, 1) := by decide +kernel
theorem d_L_424 : decode code 424 = .ok (.aload_n 0, 1) := by decide +kernel
theorem d_L_425 : decode code 425 = .ok (.iload_n 3, 1) := by decide +kernel
theorem d_L_426 : decode code 426 = .ok (.iconst 1, 1) := by decide +kernel
theorem d_L_427 : decode code 427 = .ok (.iadd, 1) := by decide +kernel
theorem d_L_428 : decode code 428 = .ok (.iaload, 1) := by decide +kernel
theorem d_L_429 : decode code 429 = .ok (.invokevirtual 64, 3) := by decide +kernel
theorem d_L_432 : decode code 432 = .ok (.if_icmp .eq 444, 3) := by decide +kernel
theorem d_L_435 : decode code 435 = .ok (.iconst 0, 1) := by decide +kernel
theorem d_L_436 : decode code 436 = .ok (.ireturn, 1) := by decide +kernel
theorem d_L_437 : decode code 437 = .ok (.aload_n 1, 1) := by decide +kernel
theorem d_L_438 : decode code 438 = .ok (.aload_n 0, 1) := by decide +kernel
theorem d_L_439 : decode code 439 = .ok (.iload_n 3, 1) := by decide +kernel
theorem d_L_440 : decode code 440 = .ok (.iconst 1, 1) := by decide +kernel
theorem d_L_441 : decode code 441 = .ok (.iadd, 1) := by decide +kernel
theorem d_L_442 : decode code 442 = .ok (.iaload, 1) := by decide +kernel
theorem d_L_443 : decode code 443 = .ok (.aload_n 0, 1) := by decide +kernel
theorem d_L_444 : decode code 444 = .ok (.iload_n 3, 1) := by decide +kernel
theorem d_L_445 : decode code 445 = .ok (.iconst 2, 1) := by decide +kernel
theorem d_L_446 : decode code 446 = .ok (.iadd, 1) := by decide +kernel
theorem d_L_447 : decode code 447 = .ok (.iaload, 1) := by decide +kernel
theorem d_L_448 : decode code 448 = .ok (.aload_n 0, 1) := by decide +kernel
theorem d_L_449 : decode code 449 = .ok (.iload_n 3, 1) := by decide +kernel
theorem d_L_450 : decode code 450 = .ok (.iconst 3, 1) := by decide +kernel
theorem d_L_451 : decode code 451 = .ok (.iadd, 1) := by decide +kernel
theorem d_L_452 : decode code 452 = .ok (.iaload, 1) := by decide +kernel
theorem d_L_453 : decode code 453 = .ok (.invokevirtual 65, 3) := by decide +kernel
theorem d_L_456 : decode code 456 = .ok (.aload_n 2, 1) := by decide +kernel
theorem d_L_457 : decode code 457 = .ok (.aload_n 0, 1) := by decide +kernel
theorem d_L_458 : decode code 458 = .ok (.iload_n 3, 1) := by decide +kernel
theorem d_L_459 : decode code 459 = .ok (.iconst 1, 1) := by decide +kernel
theorem d_L_460 : decode code 460 = .ok (.iadd, 1) := by decide +kernel
theorem d_L_461 : decode code 461 = .ok (.iaload, 1) := by decide +kernel
theorem d_L_462 : decode code 462 = .ok (.aload_n 0, 1) := by decide +kernel
theorem d_L_463 : decode code 463 = .ok (.iload_n 3, 1) := by decide +kernel
theorem d_L_464 : decode code 464 = .ok (.iconst 2, 1) := by decide +kernel
theorem d_L_465 : decode code 465 = .ok (.iadd, 1) := by decide +kernel
theorem d_L_466 : decode code 466 = .ok (.iaload, 1) := by decide +kernel
theorem d_L_467 : decode code 467 = .ok (.aload_n 0, 1) := by decide +kernel
theorem d_L_468 : decode code 468 = .ok (.iload_n 3, 1) := by decide +kernel
theorem d_L_469 : decode code 469 = .ok (.iconst 3, 1) := by decide +kernel
theorem d_L_470 : decode code 470 = .ok (.iadd, 1) := by decide +kernel
theorem d_L_471 : decode code 471 = .ok (.iaload, 1) := by decide +kernel
theorem d_L_472 : decode code 472 = .ok (.invokevirtual 69, 3) := by decide +kernel
theorem d_L_475 : decode code 475 = .ok (.if_icmp .eq 401, 3) := by decide +kernel
theorem d_L_478 : decode code 478 = .ok (.iconst 0, 1) := by decide +kernel
theorem d_L_479 : decode code 479 = .ok (.ireturn, 1) := by decide +kernel
theorem d_L_480 : decode code 480 = .ok (.aload_n 1, 1) := by decide +kernel
theorem d_L_481 : decode code 481 = .ok (.invokevirtual 70, 3) := by decide +kernel
theorem d_L_484 : decode code 484 = .ok (.aload_n 2, 1) := by decide +kernel
theorem d_L_485 : decode code 485 = .ok (.invokevirtual 73, 3) := by decide +kernel
theorem d_L_488 : decode code 488 = .ok (.if_icmp .eq 388, 3) := by decide +kernel
theorem d_L_491 : decode code 491 = .ok (.iconst 0, 1) := by decide +kernel
theorem d_L_492 : decode code 492 = .ok (.ireturn, 1) := by decide +kernel
theorem d_L_493 : decode code 493 = .ok (.aload_n 1, 1) := by decide +kernel
theorem d_L_494 : decode code 494 = .ok (.aload_n 0, 1) := by decide +kernel
theorem d_L_495 : decode code 495 = .ok (.iload_n 3, 1) := by decide +kernel
theorem d_L_496 : decode code 496 = .ok (.iconst 1, 1) := by decide +kernel
theorem d_L_497 : decode code 497 = .ok (.iadd, 1) := by decide +kernel
theorem d_L_498 : decode code 498 = .ok (.iaload, 1) := by decide +kernel
theorem d_L_499 : decode code 499 = .ok (.invokevirtual 74, 3) := by decide +kernel
theorem d_L_502 : decode code 502 = .ok (.aload_n 2, 1) := by decide +kernel
theorem d_L_503 : decode code 503 = .ok (.aload_n 0, 1) := by decide +kernel
theorem d_L_504 : decode code 504 = .ok (.iload_n 3, 1) := by decide +kernel
theorem d_L_505 : decode code 505 = .ok (.iconst 1, 1) := by decide +kernel
theorem d_L_506 : decode code 506 = .ok (.iadd, 1) := by decide +kernel
theorem d_L_507 : decode code 507 = .ok (.iaload, 1) := by decide +kernel
theorem d_L_508 : decode code 508 = .ok (.invokevirtual 77, 3) := by decide +kernel
theorem d_L_511 : decode code 511 = .ok (.if_icmp .eq 365, 3) := by decide +kernel
theorem d_L_514 : decode code 514 = .ok (.iconst 0, 1) := by decide +kernel
theorem d_L_515 : decode code 515 = .ok (.ireturn, 1) := by decide +kernel
theorem d_L_516 : decode code 516 = .ok (.aload_n 1, 1) := by decide +kernel
theorem d_L_517 : decode code 517 = .ok (.invokevirtual 78, 3) := by decide +kernel
theorem d_L_520 : decode code 520 = .ok (.aload_n 2, 1) := by decide +kernel
theorem d_L_521 : decode code 521 = .ok (.invokevirtual 81, 3) := by decide +kernel
theorem d_L_524 : decode code 524 = .ok (.if_icmp .eq 352, 3) := by decide +kernel
theorem d_L_527 : decode code 527 = .ok (.iconst 0, 1) := by decide +kernel
theorem d_L_528 : decode code 528 = .ok (.ireturn, 1) := by decide +kernel
theorem d_L_529 : decode code 529 = .ok (.aload_n 1, 1) := by decide +kernel
theorem d_L_530 : decode code 530 = .ok (.invokevirtual 82, 3) := by decide +kernel
theorem d_L_533 : decode code 533 = .ok (.aload_n 2, 1) := by decide +kernel
theorem d_L_534 : decode code 534 = .ok (.invokevirtual 85, 3) := by decide +kernel
theorem d_L_537 : decode code 537 = .ok (.if_icmp .eq 339, 3) := by decide +kernel
theorem d_L_540 : decode code 540 = .ok (.iconst 0, 1) := by decide +kernel
theorem d_L_541 : decode code 541 = .ok (.ireturn, 1) := by decide +kernel
theorem d_L_542 : decode code 542 = .ok (.aload_n 1, 1) := by decide +kernel
theorem d_L_543 : decode code 543 = .ok (.invokevirtual 86, 3) := by decide +kernel
theorem d_L_546 : decode code 546 = .ok (.aload_n 2, 1) := by decide +kernel
theorem d_L_547 : decode code 547 = .ok (.invokevirtual 89, 3) := by decide +kernel
theorem d_L_550 : decode code 550 = .ok (.if_icmp .eq 326, 3) := by decide +kernel
theorem d_L_553 : decode code 553 = .ok (.iconst 0, 1) := by decide +kernel
theorem d_L_554 : decode code 554 = .ok (.ireturn, 1) := by decide +kernel
theorem d_L_555 : decode code 555 = .ok (.aload_n 1, 1) := by decide +kernel
theorem d_L_556 : decode code 556 = .ok (.invokevirtual 90, 3) := by decide +kernel
theorem d_L_559 : decode code 559 = .ok (.aload_n 2, 1) := by decide +kernel
theorem d_L_560 : decode code 560 = .ok (.invokevirtual 93, 3) := by decide +kernel
theorem d_L_563 : decode code 563 = .ok (.if_icmp .eq 313, 3) := by decide +kernel
theorem d_L_566 : decode code 566 = .ok (.iconst 0, 1) := by decide +kernel
theorem d_L_567 : decode code 567 = .ok (.ireturn, 1) := by decide +kernel
theorem d_L_568 : decode code 568 = .ok (.aload_n 1, 1) := by decide +kernel
theorem d_L_569 : decode code 569 = .ok (.invokevirtual 94, 3) := by decide +kernel
theorem d_L_572 : decode code 572 = .ok (.aload_n 2, 1) := by decide +kernel
theorem d_L_573 : decode code 573 = .ok (.invokevirtual 97, 3) := by decide +kernel
theorem d_L_576 : decode code 576 = .ok (.if_icmp .eq 300, 3) := by decide +kernel
theorem d_L_579 : decode code 579 = .ok (.iconst 0, 1) := by decide +kernel
theorem d_L_580 : decode code 580 = .ok (.ireturn, 1) := by decide +kernel
theorem d_L_581 : decode code 581 = .ok (.aload_n 1, 1) := by decide +kernel
theorem d_L_582 : decode code 582 = .ok (.aload_n 0, 1) := by decide +kernel
theorem d_L_583 : decode code 583 = .ok (.iload_n 3, 1) := by decide +kernel
theorem d_L_584 : decode code 584 = .ok (.iconst 1, 1) := by decide +kernel
theorem d_L_585 : decode code 585 = .ok (.iadd, 1) := by decide +kernel
theorem d_L_586 : decode code 586 = .ok (.iaload, 1) := by decide +kernel
theorem d_L_587 : decode code 587 = .ok (.aload_n 0, 1) := by decide +kernel
theorem d_L_588 : decode code 588 = .ok (.iload_n 3, 1) := by decide +kernel
theorem d_L_589 : decode code 589 = .ok (.iconst 2, 1) := by decide +kernel
theorem d_L_590 : decode code 590 = .ok (.iadd, 1) := by decide +kernel
theorem d_L_591 : decode code 591 = .ok (.iaload, 1) := by decide +kernel
theorem d_L_592 : decode code 592 = .ok (.aload_n 0, 1) := by decide +kernel
theorem d_L_593 : decode code 593 = .ok (.iload_n 3, 1) := by decide +kernel
theorem d_L_594 : decode code 594 = .ok (.iconst 3, 1) := by decide +kernel
theorem d_L_595 : decode code 595 = .ok (.iadd, 1) := by decide +kernel
theorem d_L_596 : decode code 596 = .ok (.iaload, 1) := by decide +kernel
theorem d_L_597 : decode code 597 = .ok (.invokevirtual 98, 3) := by decide +kernel
theorem d_L_600 : decode code 600 = .ok (.aload_n 2, 1) := by decide +kernel
theorem d_L_601 : decode code 601 = .ok (.aload_n 0, 1) := by decide +kernel
theorem d_L_602 : decode code 602 = .ok (.iload_n 3, 1) := by decide +kernel
theorem d_L_603 : decode code 603 = .ok (.iconst 1, 1) := by decide +kernel
theorem d_L_604 : decode code 604 = .ok (.iadd, 1) := by decide +kernel
theorem d_L_605 : decode code 605 = .ok (.iaload, 1) := by decide +kernel
theorem d_L_606 : decode code 606 = .ok (.aload_n 0, 1) := by decide +kernel
theorem d_L_607 : decode code 607 = .ok (.iload_n 3, 1) := by decide +kernel
theorem d_L_608 : decode code 608 = .ok (.iconst 2, 1) := by decide +kernel
theorem d_L_609 : decode code 609 = .ok (.iadd, 1) := by decide +kernel
theorem d_L_610 : decode code 610 = .ok (.iaload, 1) := by decide +kernel
theorem d_L_611 : decode code 611 = .ok (.aload_n 0, 1) := by decide +kernel
theorem d_L_612 : decode code 612 = .ok (.iload_n 3, 1) := by decide +kernel
theorem d_L_613 : decode code 613 = .ok (.iconst 3, 1) := by decide +kernel
theorem d_L_614 : decode code 614 = .ok (.iadd, 1) := by decide +kernel
theorem d_L_615 : decode code 615 = .ok (.iaload, 1) := by decide +kernel
theorem d_L_616 : decode code 616 = .ok (.invokevirtual 101, 3) := by decide +kernel
theorem d_L_619 : decode code 619 = .ok (.if_icmp .eq 257, 3) := by decide +kernel
theorem d_L_622 : decode code 622 = .ok (.iconst 0, 1) := by decide +kernel
theorem d_L_623 : decode code 623 = .ok (.ireturn, 1) := by decide +kernel
theorem d_L_624 : decode code 624 = .ok (.aload_n 1, 1) := by decide +kernel
theorem d_L_625 : decode code 625 = .ok (.aload_n 0, 1) := by decide +kernel
theorem d_L_626 : decode code 626 = .ok (.iload_n 3, 1) := by decide +kernel
theorem d_L_627 : decode code 627 = .ok (.iconst 1, 1) := by decide +kernel
theorem d_L_628 : decode code 628 = .ok (.iadd, 1) := by decide +kernel
theorem d_L_629 : decode code 629 = .ok (.iaload, 1) := by decide +kernel
theorem d_L_630 : decode code 630 = .ok (.invokevirtual 102, 3) := by decide +kernel
theorem d_L_633 : decode code 633 = .ok (.aload_n 2, 1) := by decide +kernel
theorem d_L_634 : decode code 634 = .ok (.aload_n 0, 1) := by decide +kernel
theorem d_L_635 : decode code 635 = .ok (.iload_n 3, 1) := by decide +kernel
theorem d_L_636 : decode code 636 = .ok (.iconst 1, 1) := by decide +kernel
theorem d_L_637 : decode code 637 = .ok (.iadd, 1) := by decide +kernel
theorem d_L_638 : decode code 638 = .ok (.iaload, 1) := by decide +kernel
theorem d_L_639 : decode code 639 = .ok (.invokevirtual 105, 3) := by decide +kernel
theorem d_L_642 : decode code 642 = .ok (.if_icmp .eq 234, 3) := by decide +kernel
theorem d_L_645 : decode code 645 = .ok (.iconst 0, 1) := by decide +kernel
theorem d_L_646 : decode code 646 = .ok (.ireturn, 1) := by decide +kernel
theorem d_L_647 : decode code 647 = .ok (.aload_n 1, 1) := by decide +kernel
theorem d_L_648 : decode code 648 = .ok (.aload_n 0, 1) := by decide +kernel
theorem d_L_649 : decode code 649 = .ok (.iload_n 3, 1) := by decide +kernel
theorem d_L_650 : decode code 650 = .ok (.iconst 1, 1) := by decide +kernel
theorem d_L_651 : decode code 651 = .ok (.iadd, 1) := by decide +kernel
theorem d_L_652 : decode code 652 = .ok (.iaload, 1) := by decide +kernel
theorem d_L_653 : decode code 653 = .ok (.aload_n 0, 1) := by decide +kernel
theorem d_L_654 : decode code 654 = .ok (.iload_n 3, 1) := by decide +kernel
theorem d_L_655 : decode code 655 = .ok (.iconst 2, 1) := by decide +kernel
theorem d_L_656 : decode code 656 = .ok (.iadd, 1) := by decide +kernel
theorem d_L_657 : decode code 657 = .ok (.iaload, 1) := by decide +kernel
theorem d_L_658 : decode code 658 = .ok (.aload_n 0, 1) := by decide +kernel
theorem d_L_659 : decode code 659 = .ok (.iload_n 3, 1) := by decide +kernel
theorem d_L_660 : decode code 660 = .ok (.iconst 3, 1) := by decide +kernel
theorem d_L_661 : decode code 661 = .ok (.iadd, 1) := by decide +kernel
theorem d_L_662 : decode code 662 = .ok (.iaload, 1) := by decide +kernel
theorem d_L_663 : decode code 663 = .ok (.aload_n 0, 1) := by decide +kernel
theorem d_L_664 : decode code 664 = .ok (.iload_n 3, 1) := by decide +kernel
theorem d_L_665 : decode code 665 = .ok (.iconst 4, 1) := by decide +kernel
theorem d_L_666 : decode code 666 = .ok (.iadd, 1) := by decide +kernel
theorem d_L_667 : decode code 667 = .ok (.iaload, 1) := by decide +kernel
theorem d_L_668 : decode code 668 = .ok (.invokevirtual 106, 3) := by decide +kernel
theorem d_L_671 : decode code 671 = .ok (.aload_n 2, 1) := by decide +kernel
theorem d_L_672 : decode code 672 = .ok (.aload_n 0, 1) := by decide +kernel
theorem d_L_673 : decode code 673 = .ok (.iload_n 3, 1) := by decide +kernel
theorem d_L_674 : decode code 674 = .ok (.iconst 1, 1) := by decide +kernel
theorem d_L_675 : decode code 675 = .ok (.iadd, 1) := by decide +kernel
theorem d_L_676 : decode code 676 = .ok (.iaload, 1) := by decide +kernel
theorem d_L_677 : decode code 677 = .ok (.aload_n 0, 1) := by decide +kernel
theorem d_L_678 : decode code 678 = .ok (.iload_n 3, 1) := by decide +kernel
theorem d_L_679 : decode code 679 = .ok (.iconst 2, 1) := by decide +kernel
theorem d_L_680 : decode code 680 = .ok (.iadd, 1) := by decide +kernel
theorem d_L_681 : decode code 681 = .ok (.iaload, 1) := by decide +kernel
theorem d_L_682 : decode code 682 = .ok (.aload_n 0, 1) := by decide +kernel
theorem d_L_683 : decode code 683 = .ok (.iload_n 3, 1) := by decide +kernel
theorem d_L_684 : decode code 684 = .ok (.iconst 3, 1) := by decide +kernel
theorem d_L_685 : decode code 685 = .ok (.iadd, 1) := by decide +kernel
theorem d_L_686 : decode code 686 = .ok (.iaload, 1) := by decide +kernel
theorem d_L_687 : decode code 687 = .ok (.aload_n 0, 1) := by decide +kernel
theorem d_L_688 : decode code 688 = .ok (.iload_n 3, 1) := by decide +kernel
theorem d_L_689 : decode code 689 = .ok (.iconst 4, 1) := by decide +kernel
theorem d_L_690 : decode code 690 = .ok (.iadd, 1) := by decide +kernel
theorem d_L_691 : decode code 691 = .ok (.iaload, 1) := by decide +kernel
theorem d_L_692 : decode code 692 = .ok (.invokevirtual 110, 3) := by decide +kernel
theorem d_L_695 : decode code 695 = .ok (.if_icmp .eq 181, 3) := by decide +kernel
theorem d_L_698 : decode code 698 = .ok (.iconst 0, 1) := by decide +kernel
theorem d_L_699 : decode code 699 = .ok (.ireturn, 1) := by decide +kernel
theorem d_L_700 : decode code 700 = .ok (.aload_n 1, 1) := by decide +kernel
theorem d_L_701 : decode code 701 = .ok (.aload_n 0, 1) := by decide +kernel
theorem d_L_702 : decode code 702 = .ok (.iload_n 3, 1) := by decide +kernel
theorem d_L_703 : decode code 703 = .ok (.iconst 1, 1) := by decide +kernel
theorem d_L_704 : decode code 704 = .ok (.iadd, 1) := by decide +kernel
theorem d_L_705 : decode code 705 = .ok (.iaload, 1) := by decide +kernel
theorem d_L_706 : decode code 706 = .ok (.aload_n 0, 1) := by decide +kernel
theorem d_L_707 : decode code 707 = .ok (.iload_n 3, 1) := by decide +kernel
theorem d_L_708 : decode code 708 = .ok (.iconst 2, 1) := by decide +kernel
theorem d_L_709 : decode code 709 = .ok (.iadd, 1) := by decide +kernel
theorem d_L_710 : decode code 710 = .ok (.iaload, 1) := by decide +kernel
theorem d_L_711 : decode code 711 = .ok (.aload_n 0, 1) := by decide +kernel
theorem d_L_712 : decode code 712 = .ok (.iload_n 3, 1) := by decide +kernel
theorem d_L_713 : decode code 713 = .ok (.iconst 3, 1) := by decide +kernel
theorem d_L_714 : decode code 714 = .ok (.iadd, 1) := by decide +kernel
theorem d_L_715 : decode code 715 = .ok (.iaload, 1) := by decide +kernel
theorem d_L_716 : decode code 716 = .ok (.invokevirtual 111, 3) := by decide +kernel
theorem d_L_719 : decode code 719 = .ok (.aload_n 2, 1) := by decide +kernel
theorem d_L_720 : decode code 720 = .ok (.aload_n 0, 1) := by decide +kernel
theorem d_L_721 : decode code 721 = .ok (.iload_n 3, 1) := by decide +kernel
theorem d_L_722 : decode code 722 = .ok (.iconst 1, 1) := by decide +kernel
theorem d_L_723 : decode code 723 = .ok (.iadd, 1) := by decide +kernel
theorem d_L_724 : decode code 724 = .ok (.iaload, 1) := by decide +kernel
theorem d_L_725 : decode code 725 = .ok (.aload_n 0, 1) := by decide +kernel
theorem d_L_726 : decode code 726 = .ok (.iload_n 3, 1) := by decide +kernel
theorem d_L_727 : decode code 727 = .ok (.iconst 2, 1) := by decide +kernel
theorem d_L_728 : decode code 728 = .ok (.iadd, 1) := by decide +kernel
theorem d_L_729 : decode code 729 = .ok (.iaload, 1) := by decide +kernel
theorem d_L_730 : decode code 730 = .ok (.aload_n 0, 1) := by decide +kernel
theorem d_L_731 : decode code 731 = .ok (.iload_n 3, 1) := by decide +kernel
theorem d_L_732 : decode code 732 = .ok (.iconst 3, 1) := by decide +kernel
theorem d_L_733 : decode code 733 = .ok (.iadd, 1) := by decide +kernel
theorem d_L_734 : decode code 734 = .ok (.iaload, 1) := by decide +kernel
theorem d_L_735 : decode code 735 = .ok (.invokevirtual 114, 3) := by decide +kernel
theorem d_L_738 : decode code 738 = .ok (.if_icmp .eq 138, 3) := by decide +kernel
theorem d_L_741 : decode code 741 = .ok (.iconst 0, 1) := by decide +kernel
theorem d_L_742 : decode code 742 = .ok (.ireturn, 1) := by decide +kernel
theorem d_L_743 : decode code 743 = .ok (.aload_n 1, 1) := by decide +kernel
theorem d_L_744 : decode code 744 = .ok (.aload_n 0, 1) := by decide +kernel
theorem d_L_745 : decode code 745 = .ok (.iload_n 3, 1) := by decide +kernel
theorem d_L_746 : decode code 746 = .ok (.iconst 1, 1) := by decide +kernel
theorem d_L_747 : decode code 747 = .ok (.iadd, 1) := by decide +kernel
theorem d_L_748 : decode code 748 = .ok (.iaload, 1) := by decide +kernel
theorem d_L_749 : decode code 749 = .ok (.aload_n 0, 1) := by decide +kernel
theorem d_L_750 : decode code 750 = .ok (.iload_n 3, 1) := by decide +kernel
theorem d_L_751 : decode code 751 = .ok (.iconst 2, 1) := by decide +kernel
theorem d_L_752 : decode code 752 = .ok (.iadd, 1) := by decide +kernel
theorem d_L_753 : decode code 753 = .ok (.iaload, 1) := by decide +kernel
theorem d_L_754 : decode code 754 = .ok (.aload_n 0, 1) := by decide +kernel
theorem d_L_755 : decode code 755 = .ok (.iload_n 3, 1) := by decide +kernel
theorem d_L_756 : decode code 756 = .ok (.iconst 3, 1) := by decide +kernel
theorem d_L_757 : decode code 757 = .ok (.iadd, 1) := by decide +kernel
theorem d_L_758 : decode code 758 = .ok (.iaload, 1) := by decide +kernel
theorem d_L_759 : decode code 759 = .ok (.aload_n 0, 1) := by decide +kernel
theorem d_L_760 : decode code 760 = .ok (.iload_n 3, 1) := by decide +kernel
theorem d_L_761 : decode code 761 = .ok (.iconst 4, 1) := by decide +kernel
theorem d_L_762 : decode code 762 = .ok (.iadd, 1) := by decide +kernel
theorem d_L_763 : decode code 763 = .ok (.iaload, 1) := by decide +kernel
theorem d_L_764 : decode code 764 = .ok (.aload_n 0, 1) := by decide +kernel
theorem d_L_765 : decode code 765 = .ok (.iload_n 3, 1) := by decide +kernel
theorem d_L_766 : decode code 766 = .ok (.iconst 5, 1) := by decide +kernel
theorem d_L_767 : decode code 767 = .ok (.iadd, 1) := by decide +kernel
theorem d_L_768 : decode code 768 = .ok (.iaload, 1) := by decide +kernel
theorem d_L_769 : decode code 769 = .ok (.invokevirtual 115, 3) := by decide +kernel
theorem d_L_772 : decode code 772 = .ok (.aload_n 2, 1) := by decide +kernel
theorem d_L_773 : decode code 773 = .ok (.aload_n 0, 1) := by decide +kernel
theorem d_L_774 : decode code 774 = .ok (.iload_n 3, 1) := by decide +kernel
theorem d_L_775 : decode code 775 = .ok (.iconst 1, 1) := by decide +kernel
theorem d_L_776 : decode code 776 = .ok (.iadd, 1) := by decide +kernel
theorem d_L_777 : decode code 777 = .ok (.iaload, 1) := by decide +kernel
theorem d_L_778 : decode code 778 = .ok (.aload_n 0, 1) := by decide +kernel
theorem d_L_779 : decode code 779 = .ok (.iload_n 3, 1) := by decide +kernel
theorem d_L_780 : decode code 780 = .ok (.iconst 2, 1) := by decide +kernel
theorem d_L_781 : decode code 781 = .ok (.iadd, 1) := by decide +kernel
theorem d_L_782 : decode code 782 = .ok (.iaload, 1) := by decide +kernel
theorem d_L_783 : decode code 783 = .ok (.aload_n 0, 1) := by decide +kernel
theorem d_L_784 : decode code 784 = .ok (.iload_n 3, 1) := by decide +kernel
theorem d_L_785 : decode code 785 = .ok (.iconst 3, 1) := by decide +kernel
theorem d_L_786 : decode code 786 = .ok (.iadd, 1) := by decide +kernel
theorem d_L_787 : decode code 787 = .ok (.iaload, 1) := by decide +kernel
theorem d_L_788 : decode code 788 = .ok (.aload_n 0, 1) := by decide +kernel
theorem d_L_789 : decode code 789 = .ok (.iload_n 3, 1) := by decide +kernel
theorem d_L_790 : decode code 790 = .ok (.iconst 4, 1) := by decide +kernel
theorem d_L_791 : decode code 791 = .ok (.iadd, 1) := by decide +kernel
theorem d_L_792 : decode code 792 = .ok (.iaload, 1) := by decide +kernel
theorem d_L_793 : decode code 793 = .ok (.aload_n 0, 1) := by decide +kernel
theorem d_L_794 : decode code 794 = .ok (.iload_n 3, 1) := by decide +kernel
theorem d_L_795 : decode code 795 = .ok (.iconst 5, 1) := by decide +kernel
theorem d_L_796 : decode code 796 = .ok (.iadd, 1) := by decide +kernel
theorem d_L_797 : decode code 797 = .ok (.iaload, 1) := by decide +kernel
theorem d_L_798 : decode code 798 = .ok (.invokevirtual 119, 3) := by decide +kernel
theorem d_L_801 : decode code 801 = .ok (.if_icmp .eq 75, 3) := by decide +kernel
theorem d_L_804 : decode code 804 = .ok (.iconst 0, 1) := by decide +kernel
theorem d_L_805 : decode code 805 = .ok (.ireturn, 1) := by decide +kernel
theorem d_L_806 : decode code 806 = .ok (.aload_n 1, 1) := by decide +kernel
theorem d_L_807 : decode code 807 = .ok (.aload_n 0, 1) := by decide +kernel
theorem d_L_808 : decode code 808 = .ok (.iload_n 3, 1) := by decide +kernel
theorem d_L_809 : decode code 809 = .ok (.iconst 1, 1) := by decide +kernel
theorem d_L_810 : decode code 810 = .ok (.iadd, 1) := by decide +kernel
theorem d_L_811 : decode code 811 = .ok (.iaload, 1) := by decide +kernel
theorem d_L_812 : decode code 812 = .ok (.aload_n 0, 1) := by decide +kernel
theorem d_L_813 : decode code 813 = .ok (.iload_n 3, 1) := by decide +kernel
theorem d_L_814 : decode code 814 = .ok (.iconst 2, 1) := by decide +kernel
theorem d_L_815 : decode code 815 = .ok (.iadd, 1) := by decide +kernel
theorem d_L_816 : decode code 816 = .ok (.iaload, 1) := by decide +kernel
theorem d_L_817 : decode code 817 = .ok (.invokevirtual 120, 3) := by decide +kernel
theorem d_L_820 : decode code 820 = .ok (.aload_n 2, 1) := by decide +kernel
theorem d_L_821 : decode code 821 = .ok (.aload_n 0, 1) := by decide +kernel
theorem d_L_822 : decode code 822 = .ok (.iload_n 3, 1) := by decide +kernel
theorem d_L_823 : decode code 823 = .ok (.iconst 1, 1) := by decide +kernel
theorem d_L_824 : decode code 824 = .ok (.iadd, 1) := by decide +kernel
theorem d_L_825 : decode code 825 = .ok (.iaload, 1) := by decide +kernel
theorem d_L_826 : decode code 826 = .ok (.aload_n 0, 1) := by decide +kernel
theorem d_L_827 : decode code 827 = .ok (.iload_n 3, 1) := by decide +kernel
theorem d_L_828 : decode code 828 = .ok (.iconst 2, 1) := by decide +kernel
theorem d_L_829 : decode code 829 = .ok (.iadd, 1) := by decide +kernel
theorem d_L_830 : decode code 830 = .ok (.iaload, 1) := by decide +kernel
theorem d_L_831 : decode code 831 = .ok (.invokevirtual 123, 3) := by decide +kernel
theorem d_L_834 : decode code 834 = .ok (.if_icmp .eq 42, 3) := by decide +kernel
theorem d_L_837 : decode code 837 = .ok (.iconst 0, 1) := by decide +kernel
theorem d_L_838 : decode code 838 = .ok (.ireturn, 1) := by decide +kernel
theorem d_L_839 : decode code 839 = .ok (.aload_n 1, 1) := by decide +kernel
theorem d_L_840 : decode code 840 = .ok (.aload_n 0, 1) := by decide +kernel
theorem d_L_841 : decode code 841 = .ok (.iload_n 3, 1) := by decide +kernel
theorem d_L_842 : decode code 842 = .ok (.iconst 1, 1) := by decide +kernel
theorem d_L_843 : decode code 843 = .ok (.iadd, 1) := by decide +kernel
theorem d_L_844 : decode code 844 = .ok (.iaload, 1) := by decide +kernel
theorem d_L_845 : decode code 845 = .ok (.invokevirtual 124, 3) := by decide +kernel
theorem d_L_848 : decode code 848 = .ok (.aload_n 2, 1) := by decide +kernel
theorem d_L_849 : decode code 849 = .ok (.aload_n 0, 1) := by decide +kernel
theorem d_L_850 : decode code 850 = .ok (.iload_n 3, 1) := by decide +kernel
theorem d_L_851 : decode code 851 = .ok (.iconst 1, 1) := by decide +kernel
theorem d_L_852 : decode code 852 = .ok (.iadd, 1) := by decide +kernel
theorem d_L_853 : decode code 853 = .ok (.iaload, 1) := by decide +kernel
theorem d_L_854 : decode code 854 = .ok (.invokevirtual 127, 3) := by decide +kernel
theorem d_L_857 : decode code 857 = .ok (.if_icmp .eq 19, 3) := by decide +kernel
theorem d_L_860 : decode code 860 = .ok (.iconst 0, 1) := by decide +kernel
theorem d_L_861 : decode code 861 = .ok (.ireturn, 1) := by decide +kernel
theorem d_L_862 : decode code 862 = .ok (.aload_n 1, 1) := by decide +kernel
theorem d_L_863 : decode code 863 = .ok (.invokevirtual 128, 3) := by decide +kernel
theorem d_L_866 : decode code 866 = .ok (.aload_n 2, 1) := by decide +kernel
theorem d_L_867 : decode code 867 = .ok (.invokevirtual 131, 3) := by decide +kernel
theorem d_L_870 : decode code 870 = .ok (.lcmp, 1) := by decide +kernel
theorem d_L_871 : decode code 871 = .ok (.ifCond .eq 5, 3) := by decide +kernel
theorem d_L_874 : decode code 874 = .ok (.iconst 0, 1) := by decide +kernel
theorem d_L_875 : decode code 875 = .ok (.ireturn, 1) := by decide +kernel
theorem d_L_876 : decode code 876 = .ok (.iinc 3 6, 3) := by decide +kernel
theorem d_L_879 : decode code 879 = .ok (.goto (-861), 3) := by decide +kernel
theorem d_L_882 : decode code 882 = .ok (.iconst 1, 1) := by decide +kernel
theorem d_L_883 : decode code 883 = .ok (.ireturn, 1) := by decide +kernel
