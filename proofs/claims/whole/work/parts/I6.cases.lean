/- the cases of the law -/
abbrev LV (Z : Lx) (i : Nat) : List (Nat × Value) := [(3, .int (nI i)), (2, .ref (adr (zY Z) 43)), (1, .ref (adr (zY Z) 0)), (0, .ref (zb Z))]
theorem lc_things {Z : Lx} (hZ : Lw Z) {σ μ : Mem} {i : Nat} (hi : i + 6 ≤ zL Z) (h : Rel σ μ) (kk : ∀ σ2 μ2 : Mem, Rel σ2 μ2 → GL Z σ2 μ2 (LV Z i) 876 []) : GL Z σ μ (LV Z i) 160 [] := by
  obtain ⟨a, σ2, μ2, c1, c2, c3⟩ := uq_things h (zx Z (i + 1))
  refine l_aload hZ d_L_160 2 rfl ?_
  refine l_arg hZ (i := i) (j := 1) (by omega) rfl d_L_161 d_L_162 d_L_163 (by decide) d_L_164 d_L_165 ?_
  refine l_callO hZ [.int (zx Z (i + 1))] [] mv_L_13 (c1 (zl Z) (zY Z)) (by decide) (by decide) rfl (Nat.le_of_ble_eq_true rfl) rfl d_L_166 ?_
  refine l_aload hZ d_L_169 1 rfl ?_
  refine l_arg hZ (i := i) (j := 1) (by omega) rfl d_L_170 d_L_171 d_L_172 (by decide) d_L_173 d_L_174 ?_
  refine l_callM hZ [.int (zx Z (i + 1))] [.int a] mv_L_17 (c2 (zl Z) (zY Z)) (by decide) (by decide) rfl (Nat.le_of_ble_eq_true rfl) rfl d_L_175 ?_
  show GL Z σ2 μ2 (LV Z i) 178 [.int a, .int a]
  exact l_eq hZ 876 d_L_178 (by decide) (kk σ2 μ2 c3)
theorem lc_group {Z : Lx} (hZ : Lw Z) {σ μ : Mem} {i : Nat} (hi : i + 6 ≤ zL Z) (h : Rel σ μ) (kk : ∀ σ2 μ2 : Mem, Rel σ2 μ2 → GL Z σ2 μ2 (LV Z i) 876 []) : GL Z σ μ (LV Z i) 183 [] := by
  obtain ⟨a, σ2, μ2, c1, c2, c3⟩ := uq_group h (zx Z (i + 1))
  refine l_aload hZ d_L_183 2 rfl ?_
  refine l_arg hZ (i := i) (j := 1) (by omega) rfl d_L_184 d_L_185 d_L_186 (by decide) d_L_187 d_L_188 ?_
  refine l_callO hZ [.int (zx Z (i + 1))] [] mv_L_18 (c1 (zl Z) (zY Z)) (by decide) (by decide) rfl (Nat.le_of_ble_eq_true rfl) rfl d_L_189 ?_
  refine l_aload hZ d_L_192 1 rfl ?_
  refine l_arg hZ (i := i) (j := 1) (by omega) rfl d_L_193 d_L_194 d_L_195 (by decide) d_L_196 d_L_197 ?_
  refine l_callM hZ [.int (zx Z (i + 1))] [.int a] mv_L_21 (c2 (zl Z) (zY Z)) (by decide) (by decide) rfl (Nat.le_of_ble_eq_true rfl) rfl d_L_198 ?_
  show GL Z σ2 μ2 (LV Z i) 201 [.int a, .int a]
  exact l_eq hZ 876 d_L_201 (by decide) (kk σ2 μ2 c3)
theorem lc_back {Z : Lx} (hZ : Lw Z) {σ μ : Mem} {i : Nat} (hi : i + 6 ≤ zL Z) (h : Rel σ μ) (kk : ∀ σ2 μ2 : Mem, Rel σ2 μ2 → GL Z σ2 μ2 (LV Z i) 876 []) : GL Z σ μ (LV Z i) 206 [] := by
  obtain ⟨a, σ2, μ2, c1, c2, c3⟩ := uq_back h
  refine l_aload hZ d_L_206 2 rfl ?_
  refine l_callO hZ [] [] mv_L_22 (c1 (zl Z) (zY Z)) (by decide) (by decide) rfl (Nat.le_of_ble_eq_true rfl) rfl d_L_207 ?_
  refine l_aload hZ d_L_210 1 rfl ?_
  refine l_callM hZ [] [.int a] mv_L_26 (c2 (zl Z) (zY Z)) (by decide) (by decide) rfl (Nat.le_of_ble_eq_true rfl) rfl d_L_211 ?_
  show GL Z σ2 μ2 (LV Z i) 214 [.int a, .int a]
  exact l_eq hZ 876 d_L_214 (by decide) (kk σ2 μ2 c3)
theorem lc_taken {Z : Lx} (hZ : Lw Z) {σ μ : Mem} {i : Nat} (hi : i + 6 ≤ zL Z) (h : Rel σ μ) (kk : ∀ σ2 μ2 : Mem, Rel σ2 μ2 → GL Z σ2 μ2 (LV Z i) 876 []) : GL Z σ μ (LV Z i) 219 [] := by
  obtain ⟨a, σ2, μ2, c1, c2, c3⟩ := uq_taken h (zx Z (i + 1))
  refine l_aload hZ d_L_219 2 rfl ?_
  refine l_arg hZ (i := i) (j := 1) (by omega) rfl d_L_220 d_L_221 d_L_222 (by decide) d_L_223 d_L_224 ?_
  refine l_callO hZ [.int (zx Z (i + 1))] [] mv_L_27 (c1 (zl Z) (zY Z)) (by decide) (by decide) rfl (Nat.le_of_ble_eq_true rfl) rfl d_L_225 ?_
  refine l_aload hZ d_L_228 1 rfl ?_
  refine l_arg hZ (i := i) (j := 1) (by omega) rfl d_L_229 d_L_230 d_L_231 (by decide) d_L_232 d_L_233 ?_
  refine l_callM hZ [.int (zx Z (i + 1))] [.int a] mv_L_30 (c2 (zl Z) (zY Z)) (by decide) (by decide) rfl (Nat.le_of_ble_eq_true rfl) rfl d_L_234 ?_
  show GL Z σ2 μ2 (LV Z i) 237 [.int a, .int a]
  exact l_eq hZ 876 d_L_237 (by decide) (kk σ2 μ2 c3)
theorem lc_reason {Z : Lx} (hZ : Lw Z) {σ μ : Mem} {i : Nat} (hi : i + 6 ≤ zL Z) (h : Rel σ μ) (kk : ∀ σ2 μ2 : Mem, Rel σ2 μ2 → GL Z σ2 μ2 (LV Z i) 876 []) : GL Z σ μ (LV Z i) 242 [] := by
  obtain ⟨a, σ2, μ2, c1, c2, c3⟩ := uq_reason h (zx Z (i + 1))
  refine l_aload hZ d_L_242 2 rfl ?_
  refine l_arg hZ (i := i) (j := 1) (by omega) rfl d_L_243 d_L_244 d_L_245 (by decide) d_L_246 d_L_247 ?_
  refine l_callO hZ [.int (zx Z (i + 1))] [] mv_L_31 (c1 (zl Z) (zY Z)) (by decide) (by decide) rfl (Nat.le_of_ble_eq_true rfl) rfl d_L_248 ?_
  refine l_aload hZ d_L_251 1 rfl ?_
  refine l_arg hZ (i := i) (j := 1) (by omega) rfl d_L_252 d_L_253 d_L_254 (by decide) d_L_255 d_L_256 ?_
  refine l_callM hZ [.int (zx Z (i + 1))] [.int a] mv_L_34 (c2 (zl Z) (zY Z)) (by decide) (by decide) rfl (Nat.le_of_ble_eq_true rfl) rfl d_L_257 ?_
  show GL Z σ2 μ2 (LV Z i) 260 [.int a, .int a]
  exact l_eq hZ 876 d_L_260 (by decide) (kk σ2 μ2 c3)
theorem lc_read {Z : Lx} (hZ : Lw Z) {σ μ : Mem} {i : Nat} (hi : i + 6 ≤ zL Z) (h : Rel σ μ) (kk : ∀ σ2 μ2 : Mem, Rel σ2 μ2 → GL Z σ2 μ2 (LV Z i) 876 []) : GL Z σ μ (LV Z i) 265 [] := by
  obtain ⟨a, σ2, μ2, c1, c2, c3⟩ := uq_read h (zx Z (i + 1))
  refine l_aload hZ d_L_265 2 rfl ?_
  refine l_arg hZ (i := i) (j := 1) (by omega) rfl d_L_266 d_L_267 d_L_268 (by decide) d_L_269 d_L_270 ?_
  refine l_callO hZ [.int (zx Z (i + 1))] [] mv_L_35 (c1 (zl Z) (zY Z)) (by decide) (by decide) rfl (Nat.le_of_ble_eq_true rfl) rfl d_L_271 ?_
  refine l_aload hZ d_L_274 1 rfl ?_
  refine l_arg hZ (i := i) (j := 1) (by omega) rfl d_L_275 d_L_276 d_L_277 (by decide) d_L_278 d_L_279 ?_
  refine l_callM hZ [.int (zx Z (i + 1))] [.int a] mv_L_38 (c2 (zl Z) (zY Z)) (by decide) (by decide) rfl (Nat.le_of_ble_eq_true rfl) rfl d_L_280 ?_
  show GL Z σ2 μ2 (LV Z i) 283 [.int a, .int a]
  exact l_eq hZ 876 d_L_283 (by decide) (kk σ2 μ2 c3)
theorem lc_many {Z : Lx} (hZ : Lw Z) {σ μ : Mem} {i : Nat} (hi : i + 6 ≤ zL Z) (h : Rel σ μ) (kk : ∀ σ2 μ2 : Mem, Rel σ2 μ2 → GL Z σ2 μ2 (LV Z i) 876 []) : GL Z σ μ (LV Z i) 288 [] := by
  obtain ⟨a, σ2, μ2, c1, c2, c3⟩ := uq_many h
  refine l_aload hZ d_L_288 2 rfl ?_
  refine l_callO hZ [] [] mv_L_39 (c1 (zl Z) (zY Z)) (by decide) (by decide) rfl (Nat.le_of_ble_eq_true rfl) rfl d_L_289 ?_
  refine l_aload hZ d_L_292 1 rfl ?_
  refine l_callM hZ [] [.long a] mv_L_43 (c2 (zl Z) (zY Z)) (by decide) (by decide) rfl (Nat.le_of_ble_eq_true rfl) rfl d_L_293 ?_
  show GL Z σ2 μ2 (LV Z i) 296 [.long a, .long a]
  exact l_eqL hZ 876 d_L_296 d_L_297 (by decide) (kk σ2 μ2 c3)
theorem lc_tree {Z : Lx} (hZ : Lw Z) {σ μ : Mem} {i : Nat} (hi : i + 6 ≤ zL Z) (h : Rel σ μ) (kk : ∀ σ2 μ2 : Mem, Rel σ2 μ2 → GL Z σ2 μ2 (LV Z i) 876 []) : GL Z σ μ (LV Z i) 302 [] := by
  obtain ⟨a, σ2, μ2, c1, c2, c3⟩ := uq_tree h (zx Z (i + 1))
  refine l_aload hZ d_L_302 2 rfl ?_
  refine l_arg hZ (i := i) (j := 1) (by omega) rfl d_L_303 d_L_304 d_L_305 (by decide) d_L_306 d_L_307 ?_
  refine l_callO hZ [.int (zx Z (i + 1))] [] mv_L_44 (c1 (zl Z) (zY Z)) (by decide) (by decide) rfl (Nat.le_of_ble_eq_true rfl) rfl d_L_308 ?_
  refine l_aload hZ d_L_311 1 rfl ?_
  refine l_arg hZ (i := i) (j := 1) (by omega) rfl d_L_312 d_L_313 d_L_314 (by decide) d_L_315 d_L_316 ?_
  refine l_callM hZ [.int (zx Z (i + 1))] [.int a] mv_L_47 (c2 (zl Z) (zY Z)) (by decide) (by decide) rfl (Nat.le_of_ble_eq_true rfl) rfl d_L_317 ?_
  show GL Z σ2 μ2 (LV Z i) 320 [.int a, .int a]
  exact l_eq hZ 876 d_L_320 (by decide) (kk σ2 μ2 c3)
theorem lc_node {Z : Lx} (hZ : Lw Z) {σ μ : Mem} {i : Nat} (hi : i + 6 ≤ zL Z) (h : Rel σ μ) (kk : ∀ σ2 μ2 : Mem, Rel σ2 μ2 → GL Z σ2 μ2 (LV Z i) 876 []) : GL Z σ μ (LV Z i) 325 [] := by
  obtain ⟨a, σ2, μ2, c1, c2, c3⟩ := uq_node h (zx Z (i + 1)) (zx Z (i + 2))
  refine l_aload hZ d_L_325 2 rfl ?_
  refine l_arg hZ (i := i) (j := 1) (by omega) rfl d_L_326 d_L_327 d_L_328 (by decide) d_L_329 d_L_330 ?_
  refine l_arg hZ (i := i) (j := 2) (by omega) rfl d_L_331 d_L_332 d_L_333 (by decide) d_L_334 d_L_335 ?_
  refine l_callO hZ [.int (zx Z (i + 1)), .int (zx Z (i + 2))] [] mv_L_48 (c1 (zl Z) (zY Z)) (by decide) (by decide) rfl (Nat.le_of_ble_eq_true rfl) rfl d_L_336 ?_
  refine l_aload hZ d_L_339 1 rfl ?_
  refine l_arg hZ (i := i) (j := 1) (by omega) rfl d_L_340 d_L_341 d_L_342 (by decide) d_L_343 d_L_344 ?_
  refine l_arg hZ (i := i) (j := 2) (by omega) rfl d_L_345 d_L_346 d_L_347 (by decide) d_L_348 d_L_349 ?_
  refine l_callM hZ [.int (zx Z (i + 1)), .int (zx Z (i + 2))] [.int a] mv_L_52 (c2 (zl Z) (zY Z)) (by decide) (by decide) rfl (Nat.le_of_ble_eq_true rfl) rfl d_L_350 ?_
  show GL Z σ2 μ2 (LV Z i) 353 [.int a, .int a]
  exact l_eq hZ 876 d_L_353 (by decide) (kk σ2 μ2 c3)
theorem lc_row {Z : Lx} (hZ : Lw Z) {σ μ : Mem} {i : Nat} (hi : i + 6 ≤ zL Z) (h : Rel σ μ) (kk : ∀ σ2 μ2 : Mem, Rel σ2 μ2 → GL Z σ2 μ2 (LV Z i) 876 []) : GL Z σ μ (LV Z i) 358 [] := by
  obtain ⟨a, σ2, μ2, c1, c2, c3⟩ := uq_row h (zx Z (i + 1)) (zx Z (i + 2))
  refine l_aload hZ d_L_358 2 rfl ?_
  refine l_arg hZ (i := i) (j := 1) (by omega) rfl d_L_359 d_L_360 d_L_361 (by decide) d_L_362 d_L_363 ?_
  refine l_arg hZ (i := i) (j := 2) (by omega) rfl d_L_364 d_L_365 d_L_366 (by decide) d_L_367 d_L_368 ?_
  refine l_callO hZ [.int (zx Z (i + 1)), .int (zx Z (i + 2))] [] mv_L_53 (c1 (zl Z) (zY Z)) (by decide) (by decide) rfl (Nat.le_of_ble_eq_true rfl) rfl d_L_369 ?_
  refine l_aload hZ d_L_372 1 rfl ?_
  refine l_arg hZ (i := i) (j := 1) (by omega) rfl d_L_373 d_L_374 d_L_375 (by decide) d_L_376 d_L_377 ?_
  refine l_arg hZ (i := i) (j := 2) (by omega) rfl d_L_378 d_L_379 d_L_380 (by decide) d_L_381 d_L_382 ?_
  refine l_callM hZ [.int (zx Z (i + 1)), .int (zx Z (i + 2))] [.int a] mv_L_56 (c2 (zl Z) (zY Z)) (by decide) (by decide) rfl (Nat.le_of_ble_eq_true rfl) rfl d_L_383 ?_
  show GL Z σ2 μ2 (LV Z i) 386 [.int a, .int a]
  exact l_eq hZ 876 d_L_386 (by decide) (kk σ2 μ2 c3)
theorem lc_may {Z : Lx} (hZ : Lw Z) {σ μ : Mem} {i : Nat} (hi : i + 6 ≤ zL Z) (h : Rel σ μ) (kk : ∀ σ2 μ2 : Mem, Rel σ2 μ2 → GL Z σ2 μ2 (LV Z i) 876 []) : GL Z σ μ (LV Z i) 391 [] := by
  obtain ⟨a, σ2, μ2, c1, c2, c3⟩ := uq_may h (zx Z (i + 1))
  refine l_aload hZ d_L_391 2 rfl ?_
  refine l_arg hZ (i := i) (j := 1) (by omega) rfl d_L_392 d_L_393 d_L_394 (by decide) d_L_395 d_L_396 ?_
  refine l_callO hZ [.int (zx Z (i + 1))] [] mv_L_57 (c1 (zl Z) (zY Z)) (by decide) (by decide) rfl (Nat.le_of_ble_eq_true rfl) rfl d_L_397 ?_
  refine l_aload hZ d_L_400 1 rfl ?_
  refine l_arg hZ (i := i) (j := 1) (by omega) rfl d_L_401 d_L_402 d_L_403 (by decide) d_L_404 d_L_405 ?_
  refine l_callM hZ [.int (zx Z (i + 1))] [.int a] mv_L_60 (c2 (zl Z) (zY Z)) (by decide) (by decide) rfl (Nat.le_of_ble_eq_true rfl) rfl d_L_406 ?_
  show GL Z σ2 μ2 (LV Z i) 409 [.int a, .int a]
  exact l_eq hZ 876 d_L_409 (by decide) (kk σ2 μ2 c3)
theorem lc_must {Z : Lx} (hZ : Lw Z) {σ μ : Mem} {i : Nat} (hi : i + 6 ≤ zL Z) (h : Rel σ μ) (kk : ∀ σ2 μ2 : Mem, Rel σ2 μ2 → GL Z σ2 μ2 (LV Z i) 876 []) : GL Z σ μ (LV Z i) 414 [] := by
  obtain ⟨a, σ2, μ2, c1, c2, c3⟩ := uq_must h (zx Z (i + 1))
  refine l_aload hZ d_L_414 2 rfl ?_
  refine l_arg hZ (i := i) (j := 1) (by omega) rfl d_L_415 d_L_416 d_L_417 (by decide) d_L_418 d_L_419 ?_
  refine l_callO hZ [.int (zx Z (i + 1))] [] mv_L_61 (c1 (zl Z) (zY Z)) (by decide) (by decide) rfl (Nat.le_of_ble_eq_true rfl) rfl d_L_420 ?_
  refine l_aload hZ d_L_423 1 rfl ?_
  refine l_arg hZ (i := i) (j := 1) (by omega) rfl d_L_424 d_L_425 d_L_426 (by decide) d_L_427 d_L_428 ?_
  refine l_callM hZ [.int (zx Z (i + 1))] [.int a] mv_L_64 (c2 (zl Z) (zY Z)) (by decide) (by decide) rfl (Nat.le_of_ble_eq_true rfl) rfl d_L_429 ?_
  show GL Z σ2 μ2 (LV Z i) 432 [.int a, .int a]
  exact l_eq hZ 876 d_L_432 (by decide) (kk σ2 μ2 c3)
theorem lc_apart {Z : Lx} (hZ : Lw Z) {σ μ : Mem} {i : Nat} (hi : i + 6 ≤ zL Z) (h : Rel σ μ) (kk : ∀ σ2 μ2 : Mem, Rel σ2 μ2 → GL Z σ2 μ2 (LV Z i) 876 []) : GL Z σ μ (LV Z i) 437 [] := by
  obtain ⟨a, σ2, μ2, c1, c2, c3⟩ := uq_apart h (zx Z (i + 1)) (zx Z (i + 2)) (zx Z (i + 3))
  refine l_aload hZ d_L_437 2 rfl ?_
  refine l_arg hZ (i := i) (j := 1) (by omega) rfl d_L_438 d_L_439 d_L_440 (by decide) d_L_441 d_L_442 ?_
  refine l_arg hZ (i := i) (j := 2) (by omega) rfl d_L_443 d_L_444 d_L_445 (by decide) d_L_446 d_L_447 ?_
  refine l_arg hZ (i := i) (j := 3) (by omega) rfl d_L_448 d_L_449 d_L_450 (by decide) d_L_451 d_L_452 ?_
  refine l_callO hZ [.int (zx Z (i + 1)), .int (zx Z (i + 2)), .int (zx Z (i + 3))] [] mv_L_65 (c1 (zl Z) (zY Z)) (by decide) (by decide) rfl (Nat.le_of_ble_eq_true rfl) rfl d_L_453 ?_
  refine l_aload hZ d_L_456 1 rfl ?_
  refine l_arg hZ (i := i) (j := 1) (by omega) rfl d_L_457 d_L_458 d_L_459 (by decide) d_L_460 d_L_461 ?_
  refine l_arg hZ (i := i) (j := 2) (by omega) rfl d_L_462 d_L_463 d_L_464 (by decide) d_L_465 d_L_466 ?_
  refine l_arg hZ (i := i) (j := 3) (by omega) rfl d_L_467 d_L_468 d_L_469 (by decide) d_L_470 d_L_471 ?_
  refine l_callM hZ [.int (zx Z (i + 1)), .int (zx Z (i + 2)), .int (zx Z (i + 3))] [.int a] mv_L_69 (c2 (zl Z) (zY Z)) (by decide) (by decide) rfl (Nat.le_of_ble_eq_true rfl) rfl d_L_472 ?_
  show GL Z σ2 μ2 (LV Z i) 475 [.int a, .int a]
  exact l_eq hZ 876 d_L_475 (by decide) (kk σ2 μ2 c3)
theorem lc_spare {Z : Lx} (hZ : Lw Z) {σ μ : Mem} {i : Nat} (hi : i + 6 ≤ zL Z) (h : Rel σ μ) (kk : ∀ σ2 μ2 : Mem, Rel σ2 μ2 → GL Z σ2 μ2 (LV Z i) 876 []) : GL Z σ μ (LV Z i) 480 [] := by
  obtain ⟨a, σ2, μ2, c1, c2, c3⟩ := uq_spare h
  refine l_aload hZ d_L_480 2 rfl ?_
  refine l_callO hZ [] [] mv_L_70 (c1 (zl Z) (zY Z)) (by decide) (by decide) rfl (Nat.le_of_ble_eq_true rfl) rfl d_L_481 ?_
  refine l_aload hZ d_L_484 1 rfl ?_
  refine l_callM hZ [] [.int a] mv_L_73 (c2 (zl Z) (zY Z)) (by decide) (by decide) rfl (Nat.le_of_ble_eq_true rfl) rfl d_L_485 ?_
  show GL Z σ2 μ2 (LV Z i) 488 [.int a, .int a]
  exact l_eq hZ 876 d_L_488 (by decide) (kk σ2 μ2 c3)
theorem lc_type {Z : Lx} (hZ : Lw Z) {σ μ : Mem} {i : Nat} (hi : i + 6 ≤ zL Z) (h : Rel σ μ) (kk : ∀ σ2 μ2 : Mem, Rel σ2 μ2 → GL Z σ2 μ2 (LV Z i) 876 []) : GL Z σ μ (LV Z i) 493 [] := by
  obtain ⟨a, σ2, μ2, c1, c2, c3⟩ := uq_type h (zx Z (i + 1))
  refine l_aload hZ d_L_493 2 rfl ?_
  refine l_arg hZ (i := i) (j := 1) (by omega) rfl d_L_494 d_L_495 d_L_496 (by decide) d_L_497 d_L_498 ?_
  refine l_callO hZ [.int (zx Z (i + 1))] [] mv_L_74 (c1 (zl Z) (zY Z)) (by decide) (by decide) rfl (Nat.le_of_ble_eq_true rfl) rfl d_L_499 ?_
  refine l_aload hZ d_L_502 1 rfl ?_
  refine l_arg hZ (i := i) (j := 1) (by omega) rfl d_L_503 d_L_504 d_L_505 (by decide) d_L_506 d_L_507 ?_
  refine l_callM hZ [.int (zx Z (i + 1))] [.int a] mv_L_77 (c2 (zl Z) (zY Z)) (by decide) (by decide) rfl (Nat.le_of_ble_eq_true rfl) rfl d_L_508 ?_
  show GL Z σ2 μ2 (LV Z i) 511 [.int a, .int a]
  exact l_eq hZ 876 d_L_511 (by decide) (kk σ2 μ2 c3)
theorem lc_wipe {Z : Lx} (hZ : Lw Z) {σ μ : Mem} {i : Nat} (hi : i + 6 ≤ zL Z) (h : Rel σ μ) (kk : ∀ σ2 μ2 : Mem, Rel σ2 μ2 → GL Z σ2 μ2 (LV Z i) 876 []) : GL Z σ μ (LV Z i) 516 [] := by
  obtain ⟨a, σ2, μ2, c1, c2, c3⟩ := uq_wipe h
  refine l_aload hZ d_L_516 2 rfl ?_
  refine l_callO hZ [] [] mv_L_78 (c1 (zl Z) (zY Z)) (by decide) (by decide) rfl (Nat.le_of_ble_eq_true rfl) rfl d_L_517 ?_
  refine l_aload hZ d_L_520 1 rfl ?_
  refine l_callM hZ [] [.int a] mv_L_81 (c2 (zl Z) (zY Z)) (by decide) (by decide) rfl (Nat.le_of_ble_eq_true rfl) rfl d_L_521 ?_
  show GL Z σ2 μ2 (LV Z i) 524 [.int a, .int a]
  exact l_eq hZ 876 d_L_524 (by decide) (kk σ2 μ2 c3)
theorem lc_undo {Z : Lx} (hZ : Lw Z) {σ μ : Mem} {i : Nat} (hi : i + 6 ≤ zL Z) (h : Rel σ μ) (kk : ∀ σ2 μ2 : Mem, Rel σ2 μ2 → GL Z σ2 μ2 (LV Z i) 876 []) : GL Z σ μ (LV Z i) 529 [] := by
  obtain ⟨a, σ2, μ2, c1, c2, c3⟩ := uq_undo h
  refine l_aload hZ d_L_529 2 rfl ?_
  refine l_callO hZ [] [] mv_L_82 (c1 (zl Z) (zY Z)) (by decide) (by decide) rfl (Nat.le_of_ble_eq_true rfl) rfl d_L_530 ?_
  refine l_aload hZ d_L_533 1 rfl ?_
  refine l_callM hZ [] [.int a] mv_L_85 (c2 (zl Z) (zY Z)) (by decide) (by decide) rfl (Nat.le_of_ble_eq_true rfl) rfl d_L_534 ?_
  show GL Z σ2 μ2 (LV Z i) 537 [.int a, .int a]
  exact l_eq hZ 876 d_L_537 (by decide) (kk σ2 μ2 c3)
theorem lc_fault {Z : Lx} (hZ : Lw Z) {σ μ : Mem} {i : Nat} (hi : i + 6 ≤ zL Z) (h : Rel σ μ) (kk : ∀ σ2 μ2 : Mem, Rel σ2 μ2 → GL Z σ2 μ2 (LV Z i) 876 []) : GL Z σ μ (LV Z i) 542 [] := by
  obtain ⟨a, σ2, μ2, c1, c2, c3⟩ := uq_fault h
  refine l_aload hZ d_L_542 2 rfl ?_
  refine l_callO hZ [] [] mv_L_86 (c1 (zl Z) (zY Z)) (by decide) (by decide) rfl (Nat.le_of_ble_eq_true rfl) rfl d_L_543 ?_
  refine l_aload hZ d_L_546 1 rfl ?_
  refine l_callM hZ [] [.int a] mv_L_89 (c2 (zl Z) (zY Z)) (by decide) (by decide) rfl (Nat.le_of_ble_eq_true rfl) rfl d_L_547 ?_
  show GL Z σ2 μ2 (LV Z i) 550 [.int a, .int a]
  exact l_eq hZ 876 d_L_550 (by decide) (kk σ2 μ2 c3)
theorem lc_misses {Z : Lx} (hZ : Lw Z) {σ μ : Mem} {i : Nat} (hi : i + 6 ≤ zL Z) (h : Rel σ μ) (kk : ∀ σ2 μ2 : Mem, Rel σ2 μ2 → GL Z σ2 μ2 (LV Z i) 876 []) : GL Z σ μ (LV Z i) 555 [] := by
  obtain ⟨a, σ2, μ2, c1, c2, c3⟩ := uq_misses h
  refine l_aload hZ d_L_555 2 rfl ?_
  refine l_callO hZ [] [] mv_L_90 (c1 (zl Z) (zY Z)) (by decide) (by decide) rfl (Nat.le_of_ble_eq_true rfl) rfl d_L_556 ?_
  refine l_aload hZ d_L_559 1 rfl ?_
  refine l_callM hZ [] [.int a] mv_L_93 (c2 (zl Z) (zY Z)) (by decide) (by decide) rfl (Nat.le_of_ble_eq_true rfl) rfl d_L_560 ?_
  show GL Z σ2 μ2 (LV Z i) 563 [.int a, .int a]
  exact l_eq hZ 876 d_L_563 (by decide) (kk σ2 μ2 c3)
theorem lc_number {Z : Lx} (hZ : Lw Z) {σ μ : Mem} {i : Nat} (hi : i + 6 ≤ zL Z) (h : Rel σ μ) (kk : ∀ σ2 μ2 : Mem, Rel σ2 μ2 → GL Z σ2 μ2 (LV Z i) 876 []) : GL Z σ μ (LV Z i) 568 [] := by
  obtain ⟨a, σ2, μ2, c1, c2, c3⟩ := uq_number h
  refine l_aload hZ d_L_568 2 rfl ?_
  refine l_callO hZ [] [] mv_L_94 (c1 (zl Z) (zY Z)) (by decide) (by decide) rfl (Nat.le_of_ble_eq_true rfl) rfl d_L_569 ?_
  refine l_aload hZ d_L_572 1 rfl ?_
  refine l_callM hZ [] [.int a] mv_L_97 (c2 (zl Z) (zY Z)) (by decide) (by decide) rfl (Nat.le_of_ble_eq_true rfl) rfl d_L_573 ?_
  show GL Z σ2 μ2 (LV Z i) 576 [.int a, .int a]
  exact l_eq hZ 876 d_L_576 (by decide) (kk σ2 μ2 c3)
theorem lc_sheet {Z : Lx} (hZ : Lw Z) {σ μ : Mem} {i : Nat} (hi : i + 6 ≤ zL Z) (h : Rel σ μ) (kk : ∀ σ2 μ2 : Mem, Rel σ2 μ2 → GL Z σ2 μ2 (LV Z i) 876 []) : GL Z σ μ (LV Z i) 581 [] := by
  obtain ⟨a, σ2, μ2, c1, c2, c3⟩ := uq_sheet h (zx Z (i + 1)) (zx Z (i + 2)) (zx Z (i + 3))
  refine l_aload hZ d_L_581 2 rfl ?_
  refine l_arg hZ (i := i) (j := 1) (by omega) rfl d_L_582 d_L_583 d_L_584 (by decide) d_L_585 d_L_586 ?_
  refine l_arg hZ (i := i) (j := 2) (by omega) rfl d_L_587 d_L_588 d_L_589 (by decide) d_L_590 d_L_591 ?_
  refine l_arg hZ (i := i) (j := 3) (by omega) rfl d_L_592 d_L_593 d_L_594 (by decide) d_L_595 d_L_596 ?_
  refine l_callO hZ [.int (zx Z (i + 1)), .int (zx Z (i + 2)), .int (zx Z (i + 3))] [] mv_L_98 (c1 (zl Z) (zY Z)) (by decide) (by decide) rfl (Nat.le_of_ble_eq_true rfl) rfl d_L_597 ?_
  refine l_aload hZ d_L_600 1 rfl ?_
  refine l_arg hZ (i := i) (j := 1) (by omega) rfl d_L_601 d_L_602 d_L_603 (by decide) d_L_604 d_L_605 ?_
  refine l_arg hZ (i := i) (j := 2) (by omega) rfl d_L_606 d_L_607 d_L_608 (by decide) d_L_609 d_L_610 ?_
  refine l_arg hZ (i := i) (j := 3) (by omega) rfl d_L_611 d_L_612 d_L_613 (by decide) d_L_614 d_L_615 ?_
  refine l_callM hZ [.int (zx Z (i + 1)), .int (zx Z (i + 2)), .int (zx Z (i + 3))] [.int a] mv_L_101 (c2 (zl Z) (zY Z)) (by decide) (by decide) rfl (Nat.le_of_ble_eq_true rfl) rfl d_L_616 ?_
  show GL Z σ2 μ2 (LV Z i) 619 [.int a, .int a]
  exact l_eq hZ 876 d_L_619 (by decide) (kk σ2 μ2 c3)
theorem lc_lose {Z : Lx} (hZ : Lw Z) {σ μ : Mem} {i : Nat} (hi : i + 6 ≤ zL Z) (h : Rel σ μ) (kk : ∀ σ2 μ2 : Mem, Rel σ2 μ2 → GL Z σ2 μ2 (LV Z i) 876 []) : GL Z σ μ (LV Z i) 624 [] := by
  obtain ⟨a, σ2, μ2, c1, c2, c3⟩ := uq_lose h (zx Z (i + 1))
  refine l_aload hZ d_L_624 2 rfl ?_
  refine l_arg hZ (i := i) (j := 1) (by omega) rfl d_L_625 d_L_626 d_L_627 (by decide) d_L_628 d_L_629 ?_
  refine l_callO hZ [.int (zx Z (i + 1))] [] mv_L_102 (c1 (zl Z) (zY Z)) (by decide) (by decide) rfl (Nat.le_of_ble_eq_true rfl) rfl d_L_630 ?_
  refine l_aload hZ d_L_633 1 rfl ?_
  refine l_arg hZ (i := i) (j := 1) (by omega) rfl d_L_634 d_L_635 d_L_636 (by decide) d_L_637 d_L_638 ?_
  refine l_callM hZ [.int (zx Z (i + 1))] [.int a] mv_L_105 (c2 (zl Z) (zY Z)) (by decide) (by decide) rfl (Nat.le_of_ble_eq_true rfl) rfl d_L_639 ?_
  show GL Z σ2 μ2 (LV Z i) 642 [.int a, .int a]
  exact l_eq hZ 876 d_L_642 (by decide) (kk σ2 μ2 c3)
theorem lc_put {Z : Lx} (hZ : Lw Z) {σ μ : Mem} {i : Nat} (hi : i + 6 ≤ zL Z) (h : Rel σ μ) (kk : ∀ σ2 μ2 : Mem, Rel σ2 μ2 → GL Z σ2 μ2 (LV Z i) 876 []) : GL Z σ μ (LV Z i) 647 [] := by
  obtain ⟨a, σ2, μ2, c1, c2, c3⟩ := uq_put h (zx Z (i + 1)) (zx Z (i + 2)) (zx Z (i + 3)) (zx Z (i + 4))
  refine l_aload hZ d_L_647 2 rfl ?_
  refine l_arg hZ (i := i) (j := 1) (by omega) rfl d_L_648 d_L_649 d_L_650 (by decide) d_L_651 d_L_652 ?_
  refine l_arg hZ (i := i) (j := 2) (by omega) rfl d_L_653 d_L_654 d_L_655 (by decide) d_L_656 d_L_657 ?_
  refine l_arg hZ (i := i) (j := 3) (by omega) rfl d_L_658 d_L_659 d_L_660 (by decide) d_L_661 d_L_662 ?_
  refine l_arg hZ (i := i) (j := 4) (by omega) rfl d_L_663 d_L_664 d_L_665 (by decide) d_L_666 d_L_667 ?_
  refine l_callO hZ [.int (zx Z (i + 1)), .int (zx Z (i + 2)), .int (zx Z (i + 3)), .int (zx Z (i + 4))] [] mv_L_106 (c1 (zl Z) (zY Z)) (by decide) (by decide) rfl (Nat.le_of_ble_eq_true rfl) rfl d_L_668 ?_
  refine l_aload hZ d_L_671 1 rfl ?_
  refine l_arg hZ (i := i) (j := 1) (by omega) rfl d_L_672 d_L_673 d_L_674 (by decide) d_L_675 d_L_676 ?_
  refine l_arg hZ (i := i) (j := 2) (by omega) rfl d_L_677 d_L_678 d_L_679 (by decide) d_L_680 d_L_681 ?_
  refine l_arg hZ (i := i) (j := 3) (by omega) rfl d_L_682 d_L_683 d_L_684 (by decide) d_L_685 d_L_686 ?_
  refine l_arg hZ (i := i) (j := 4) (by omega) rfl d_L_687 d_L_688 d_L_689 (by decide) d_L_690 d_L_691 ?_
  refine l_callM hZ [.int (zx Z (i + 1)), .int (zx Z (i + 2)), .int (zx Z (i + 3)), .int (zx Z (i + 4))] [.int a] mv_L_110 (c2 (zl Z) (zY Z)) (by decide) (by decide) rfl (Nat.le_of_ble_eq_true rfl) rfl d_L_692 ?_
  show GL Z σ2 μ2 (LV Z i) 695 [.int a, .int a]
  exact l_eq hZ 876 d_L_695 (by decide) (kk σ2 μ2 c3)
theorem lc_get {Z : Lx} (hZ : Lw Z) {σ μ : Mem} {i : Nat} (hi : i + 6 ≤ zL Z) (h : Rel σ μ) (kk : ∀ σ2 μ2 : Mem, Rel σ2 μ2 → GL Z σ2 μ2 (LV Z i) 876 []) : GL Z σ μ (LV Z i) 700 [] := by
  obtain ⟨a, σ2, μ2, c1, c2, c3⟩ := uq_get h (zx Z (i + 1)) (zx Z (i + 2)) (zx Z (i + 3))
  refine l_aload hZ d_L_700 2 rfl ?_
  refine l_arg hZ (i := i) (j := 1) (by omega) rfl d_L_701 d_L_702 d_L_703 (by decide) d_L_704 d_L_705 ?_
  refine l_arg hZ (i := i) (j := 2) (by omega) rfl d_L_706 d_L_707 d_L_708 (by decide) d_L_709 d_L_710 ?_
  refine l_arg hZ (i := i) (j := 3) (by omega) rfl d_L_711 d_L_712 d_L_713 (by decide) d_L_714 d_L_715 ?_
  refine l_callO hZ [.int (zx Z (i + 1)), .int (zx Z (i + 2)), .int (zx Z (i + 3))] [] mv_L_111 (c1 (zl Z) (zY Z)) (by decide) (by decide) rfl (Nat.le_of_ble_eq_true rfl) rfl d_L_716 ?_
  refine l_aload hZ d_L_719 1 rfl ?_
  refine l_arg hZ (i := i) (j := 1) (by omega) rfl d_L_720 d_L_721 d_L_722 (by decide) d_L_723 d_L_724 ?_
  refine l_arg hZ (i := i) (j := 2) (by omega) rfl d_L_725 d_L_726 d_L_727 (by decide) d_L_728 d_L_729 ?_
  refine l_arg hZ (i := i) (j := 3) (by omega) rfl d_L_730 d_L_731 d_L_732 (by decide) d_L_733 d_L_734 ?_
  refine l_callM hZ [.int (zx Z (i + 1)), .int (zx Z (i + 2)), .int (zx Z (i + 3))] [.int a] mv_L_114 (c2 (zl Z) (zY Z)) (by decide) (by decide) rfl (Nat.le_of_ble_eq_true rfl) rfl d_L_735 ?_
  show GL Z σ2 μ2 (LV Z i) 738 [.int a, .int a]
  exact l_eq hZ 876 d_L_738 (by decide) (kk σ2 μ2 c3)
theorem lc_copy {Z : Lx} (hZ : Lw Z) {σ μ : Mem} {i : Nat} (hi : i + 6 ≤ zL Z) (h : Rel σ μ) (kk : ∀ σ2 μ2 : Mem, Rel σ2 μ2 → GL Z σ2 μ2 (LV Z i) 876 []) : GL Z σ μ (LV Z i) 743 [] := by
  obtain ⟨a, σ2, μ2, c1, c2, c3⟩ := uq_copy h (zx Z (i + 1)) (zx Z (i + 2)) (zx Z (i + 3)) (zx Z (i + 4)) (zx Z (i + 5))
  refine l_aload hZ d_L_743 2 rfl ?_
  refine l_arg hZ (i := i) (j := 1) (by omega) rfl d_L_744 d_L_745 d_L_746 (by decide) d_L_747 d_L_748 ?_
  refine l_arg hZ (i := i) (j := 2) (by omega) rfl d_L_749 d_L_750 d_L_751 (by decide) d_L_752 d_L_753 ?_
  refine l_arg hZ (i := i) (j := 3) (by omega) rfl d_L_754 d_L_755 d_L_756 (by decide) d_L_757 d_L_758 ?_
  refine l_arg hZ (i := i) (j := 4) (by omega) rfl d_L_759 d_L_760 d_L_761 (by decide) d_L_762 d_L_763 ?_
  refine l_arg hZ (i := i) (j := 5) (by omega) rfl d_L_764 d_L_765 d_L_766 (by decide) d_L_767 d_L_768 ?_
  refine l_callO hZ [.int (zx Z (i + 1)), .int (zx Z (i + 2)), .int (zx Z (i + 3)), .int (zx Z (i + 4)), .int (zx Z (i + 5))] [] mv_L_115 (c1 (zl Z) (zY Z)) (by decide) (by decide) rfl (Nat.le_of_ble_eq_true rfl) rfl d_L_769 ?_
  refine l_aload hZ d_L_772 1 rfl ?_
  refine l_arg hZ (i := i) (j := 1) (by omega) rfl d_L_773 d_L_774 d_L_775 (by decide) d_L_776 d_L_777 ?_
  refine l_arg hZ (i := i) (j := 2) (by omega) rfl d_L_778 d_L_779 d_L_780 (by decide) d_L_781 d_L_782 ?_
  refine l_arg hZ (i := i) (j := 3) (by omega) rfl d_L_783 d_L_784 d_L_785 (by decide) d_L_786 d_L_787 ?_
  refine l_arg hZ (i := i) (j := 4) (by omega) rfl d_L_788 d_L_789 d_L_790 (by decide) d_L_791 d_L_792 ?_
  refine l_arg hZ (i := i) (j := 5) (by omega) rfl d_L_793 d_L_794 d_L_795 (by decide) d_L_796 d_L_797 ?_
  refine l_callM hZ [.int (zx Z (i + 1)), .int (zx Z (i + 2)), .int (zx Z (i + 3)), .int (zx Z (i + 4)), .int (zx Z (i + 5))] [.int a] mv_L_119 (c2 (zl Z) (zY Z)) (by decide) (by decide) rfl (Nat.le_of_ble_eq_true rfl) rfl d_L_798 ?_
  show GL Z σ2 μ2 (LV Z i) 801 [.int a, .int a]
  exact l_eq hZ 876 d_L_801 (by decide) (kk σ2 μ2 c3)
theorem lc_write {Z : Lx} (hZ : Lw Z) {σ μ : Mem} {i : Nat} (hi : i + 6 ≤ zL Z) (h : Rel σ μ) (kk : ∀ σ2 μ2 : Mem, Rel σ2 μ2 → GL Z σ2 μ2 (LV Z i) 876 []) : GL Z σ μ (LV Z i) 806 [] := by
  obtain ⟨a, σ2, μ2, c1, c2, c3⟩ := uq_write h (zx Z (i + 1)) (zx Z (i + 2))
  refine l_aload hZ d_L_806 2 rfl ?_
  refine l_arg hZ (i := i) (j := 1) (by omega) rfl d_L_807 d_L_808 d_L_809 (by decide) d_L_810 d_L_811 ?_
  refine l_arg hZ (i := i) (j := 2) (by omega) rfl d_L_812 d_L_813 d_L_814 (by decide) d_L_815 d_L_816 ?_
  refine l_callO hZ [.int (zx Z (i + 1)), .int (zx Z (i + 2))] [] mv_L_120 (c1 (zl Z) (zY Z)) (by decide) (by decide) rfl (Nat.le_of_ble_eq_true rfl) rfl d_L_817 ?_
  refine l_aload hZ d_L_820 1 rfl ?_
  refine l_arg hZ (i := i) (j := 1) (by omega) rfl d_L_821 d_L_822 d_L_823 (by decide) d_L_824 d_L_825 ?_
  refine l_arg hZ (i := i) (j := 2) (by omega) rfl d_L_826 d_L_827 d_L_828 (by decide) d_L_829 d_L_830 ?_
  refine l_callM hZ [.int (zx Z (i + 1)), .int (zx Z (i + 2))] [.int a] mv_L_123 (c2 (zl Z) (zY Z)) (by decide) (by decide) rfl (Nat.le_of_ble_eq_true rfl) rfl d_L_831 ?_
  show GL Z σ2 μ2 (LV Z i) 834 [.int a, .int a]
  exact l_eq hZ 876 d_L_834 (by decide) (kk σ2 μ2 c3)
theorem lc_count {Z : Lx} (hZ : Lw Z) {σ μ : Mem} {i : Nat} (hi : i + 6 ≤ zL Z) (h : Rel σ μ) (kk : ∀ σ2 μ2 : Mem, Rel σ2 μ2 → GL Z σ2 μ2 (LV Z i) 876 []) : GL Z σ μ (LV Z i) 839 [] := by
  obtain ⟨a, σ2, μ2, c1, c2, c3⟩ := uq_count h (zx Z (i + 1))
  refine l_aload hZ d_L_839 2 rfl ?_
  refine l_arg hZ (i := i) (j := 1) (by omega) rfl d_L_840 d_L_841 d_L_842 (by decide) d_L_843 d_L_844 ?_
  refine l_callO hZ [.int (zx Z (i + 1))] [] mv_L_124 (c1 (zl Z) (zY Z)) (by decide) (by decide) rfl (Nat.le_of_ble_eq_true rfl) rfl d_L_845 ?_
  refine l_aload hZ d_L_848 1 rfl ?_
  refine l_arg hZ (i := i) (j := 1) (by omega) rfl d_L_849 d_L_850 d_L_851 (by decide) d_L_852 d_L_853 ?_
  refine l_callM hZ [.int (zx Z (i + 1))] [.int a] mv_L_127 (c2 (zl Z) (zY Z)) (by decide) (by decide) rfl (Nat.le_of_ble_eq_true rfl) rfl d_L_854 ?_
  show GL Z σ2 μ2 (LV Z i) 857 [.int a, .int a]
  exact l_eq hZ 876 d_L_857 (by decide) (kk σ2 μ2 c3)
theorem lc_digest {Z : Lx} (hZ : Lw Z) {σ μ : Mem} {i : Nat} (hi : i + 6 ≤ zL Z) (h : Rel σ μ) (kk : ∀ σ2 μ2 : Mem, Rel σ2 μ2 → GL Z σ2 μ2 (LV Z i) 876 []) : GL Z σ μ (LV Z i) 862 [] := by
  obtain ⟨a, σ2, μ2, c1, c2, c3⟩ := uq_digest h
  refine l_aload hZ d_L_862 2 rfl ?_
  refine l_callO hZ [] [] mv_L_128 (c1 (zl Z) (zY Z)) (by decide) (by decide) rfl (Nat.le_of_ble_eq_true rfl) rfl d_L_863 ?_
  refine l_aload hZ d_L_866 1 rfl ?_
  refine l_callM hZ [] [.long a] mv_L_131 (c2 (zl Z) (zY Z)) (by decide) (by decide) rfl (Nat.le_of_ble_eq_true rfl) rfl d_L_867 ?_
  show GL Z σ2 μ2 (LV Z i) 870 [.long a, .long a]
  exact l_eqL hZ 876 d_L_870 d_L_871 (by decide) (kk σ2 μ2 c3)
