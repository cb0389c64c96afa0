/-! ===== the law: a call on both, by its number ===== -/
section LWC
variable {p : Program} {l : Launch} {e : Env} {s : State} {m : MethodId} {args : Array Value} {below : List Frame} {meth : Method} {c : Code} {cells slots : Nat} {D : va_G} {cA : Nat → ClassId} {ad : Nat → Nat} {A : Nat → Prop} {Q : State → Prop} {L : Nat} {xs : Nat → Int32}
set_option maxRecDepth 20000 in
theorem lw_c0 (C : LC p s m args meth c D cA ad A L xs) (hcs : cells ≤ 601024 ∧ slots ≤ 7293034) (hL : L ≤ 3072) {j : Nat} (hj : 6 * j + 6 ≤ L) {w5 w6 : Value} {σ : pm_H} (hI : LInv j σ) (K : ∀ σ', LInv (j + 1) σ' → pm_G p l e room_1 s m args below meth c cells slots D cA ad A 7 Q (23, LO (j + 1) w5 w6, [], σ')) : pm_G p l e room_1 s m args below meth c cells slots D cA ad A 7 Q (228, LO j w5 w6, [], σ) := by
  obtain ⟨sz, T, R, n, a, e9, nl, V, h, w⟩ := hI
  obtain ⟨v, σ1, σ2, h1, h2, h3⟩ := b_feed 0 h w (xs (6 * j + 1)) (xs (6 * j + 2)) (xs (6 * j + 3)) (xs (6 * j + 4)) (xs (6 * j + 5))
  obtain ⟨x, rfl⟩ := int_of ri_X11_feed h1
  refine lw_st (ps_aload_n dL_law_228 rfl) C hcs rfl ?_
  refine lw_arg (kk := 1) dL_law_229 dL_law_230 dL_law_232 dL_law_233 dL_law_234 rfl C hcs (by omega) hL ?_
  refine lw_arg (kk := 2) dL_law_235 dL_law_236 dL_law_238 dL_law_239 dL_law_240 rfl C hcs (by omega) hL ?_
  refine lw_arg (kk := 3) dL_law_241 dL_law_242 dL_law_244 dL_law_245 dL_law_246 rfl C hcs (by omega) hL ?_
  refine lw_arg (kk := 4) dL_law_247 dL_law_248 dL_law_250 dL_law_251 dL_law_252 rfl C hcs (by omega) hL ?_
  refine lw_arg (kk := 5) dL_law_253 dL_law_254 dL_law_256 dL_law_257 dL_law_258 rfl C hcs (by omega) hL ?_
  refine lw_cV (rest := []) (cc0 := 0) sc_L_259 C hcs (by decide) h1 rfl rfl (Nat.le_of_ble_eq_true rfl) rfl ?_
  refine lw_st (ps_aload_n dL_law_262 rfl) C hcs rfl ?_
  refine lw_arg (kk := 1) dL_law_263 dL_law_264 dL_law_266 dL_law_267 dL_law_268 rfl C hcs (by omega) hL ?_
  refine lw_arg (kk := 2) dL_law_269 dL_law_270 dL_law_272 dL_law_273 dL_law_274 rfl C hcs (by omega) hL ?_
  refine lw_arg (kk := 3) dL_law_275 dL_law_276 dL_law_278 dL_law_279 dL_law_280 rfl C hcs (by omega) hL ?_
  refine lw_arg (kk := 4) dL_law_281 dL_law_282 dL_law_284 dL_law_285 dL_law_286 rfl C hcs (by omega) hL ?_
  refine lw_arg (kk := 5) dL_law_287 dL_law_288 dL_law_290 dL_law_291 dL_law_292 rfl C hcs (by omega) hL ?_
  refine lw_cV (rest := [.int x]) (cc0 := 133) sc_L_293 C hcs (by decide) h2 rfl rfl (Nat.le_of_ble_eq_true rfl) rfl ?_
  refine lw_st (ps_ceq (pc := 296) (t := 1642) dL_law_296 (by decide)) C hcs (ceq_eq x) ?_
  exact lw_tail C hcs (by omega) (K σ2 (LInv_X ⟨sz, T, R, nl, V, h3⟩))
set_option maxRecDepth 20000 in
theorem lw_c1 (C : LC p s m args meth c D cA ad A L xs) (hcs : cells ≤ 601024 ∧ slots ≤ 7293034) (hL : L ≤ 3072) {j : Nat} (hj : 6 * j + 6 ≤ L) {w5 w6 : Value} {σ : pm_H} (hI : LInv j σ) (K : ∀ σ', LInv (j + 1) σ' → pm_G p l e room_1 s m args below meth c cells slots D cA ad A 7 Q (23, LO (j + 1) w5 w6, [], σ')) : pm_G p l e room_1 s m args below meth c cells slots D cA ad A 7 Q (301, LO j w5 w6, [], σ) := by
  obtain ⟨sz, T, R, n, a, e9, nl, V, h, w⟩ := hI
  obtain ⟨v, σ1, σ2, h1, h2, h3⟩ := b_end 0 h w (xs (6 * j + 1))
  obtain ⟨x, rfl⟩ := int_of ri_X11_end h1
  refine lw_st (ps_aload_n dL_law_301 rfl) C hcs rfl ?_
  refine lw_arg (kk := 1) dL_law_302 dL_law_303 dL_law_305 dL_law_306 dL_law_307 rfl C hcs (by omega) hL ?_
  refine lw_cV (rest := []) (cc0 := 0) sc_L_308 C hcs (by decide) h1 rfl rfl (Nat.le_of_ble_eq_true rfl) rfl ?_
  refine lw_st (ps_aload_n dL_law_311 rfl) C hcs rfl ?_
  refine lw_arg (kk := 1) dL_law_312 dL_law_313 dL_law_315 dL_law_316 dL_law_317 rfl C hcs (by omega) hL ?_
  refine lw_cV (rest := [.int x]) (cc0 := 133) sc_L_318 C hcs (by decide) h2 rfl rfl (Nat.le_of_ble_eq_true rfl) rfl ?_
  refine lw_st (ps_ceq (pc := 321) (t := 1642) dL_law_321 (by decide)) C hcs (ceq_eq x) ?_
  exact lw_tail C hcs (by omega) (K σ2 (LInv_X ⟨sz, T, R, nl, V, h3⟩))
set_option maxRecDepth 20000 in
theorem lw_c2 (C : LC p s m args meth c D cA ad A L xs) (hcs : cells ≤ 601024 ∧ slots ≤ 7293034) (hL : L ≤ 3072) {j : Nat} (hj : 6 * j + 6 ≤ L) {w5 w6 : Value} {σ : pm_H} (hI : LInv j σ) (K : ∀ σ', LInv (j + 1) σ' → pm_G p l e room_1 s m args below meth c cells slots D cA ad A 7 Q (23, LO (j + 1) w5 w6, [], σ')) : pm_G p l e room_1 s m args below meth c cells slots D cA ad A 7 Q (326, LO j w5 w6, [], σ) := by
  obtain ⟨sz, T, R, n, a, e9, nl, V, h, w⟩ := hI
  obtain ⟨v, σ1, σ2, h1, h2, h3⟩ := b_fault 0 h w (xs (6 * j + 1))
  obtain ⟨x, rfl⟩ := int_of ri_X11_fault h1
  refine lw_st (ps_aload_n dL_law_326 rfl) C hcs rfl ?_
  refine lw_arg (kk := 1) dL_law_327 dL_law_328 dL_law_330 dL_law_331 dL_law_332 rfl C hcs (by omega) hL ?_
  refine lw_cV (rest := []) (cc0 := 0) sc_L_333 C hcs (by decide) h1 rfl rfl (Nat.le_of_ble_eq_true rfl) rfl ?_
  refine lw_st (ps_aload_n dL_law_336 rfl) C hcs rfl ?_
  refine lw_arg (kk := 1) dL_law_337 dL_law_338 dL_law_340 dL_law_341 dL_law_342 rfl C hcs (by omega) hL ?_
  refine lw_cV (rest := [.int x]) (cc0 := 133) sc_L_343 C hcs (by decide) h2 rfl rfl (Nat.le_of_ble_eq_true rfl) rfl ?_
  refine lw_st (ps_ceq (pc := 346) (t := 1642) dL_law_346 (by decide)) C hcs (ceq_eq x) ?_
  exact lw_tail C hcs (by omega) (K σ2 (LInv_X ⟨sz, T, R, nl, V, h3⟩))
set_option maxRecDepth 20000 in
theorem lw_c3 (C : LC p s m args meth c D cA ad A L xs) (hcs : cells ≤ 601024 ∧ slots ≤ 7293034) (hL : L ≤ 3072) {j : Nat} (hj : 6 * j + 6 ≤ L) {w5 w6 : Value} {σ : pm_H} (hI : LInv j σ) (K : ∀ σ', LInv (j + 1) σ' → pm_G p l e room_1 s m args below meth c cells slots D cA ad A 7 Q (23, LO (j + 1) w5 w6, [], σ')) : pm_G p l e room_1 s m args below meth c cells slots D cA ad A 7 Q (351, LO j w5 w6, [], σ) := by
  obtain ⟨sz, T, R, n, a, e9, nl, V, h, w⟩ := hI
  obtain ⟨v, σ1, σ2, h1, h2, h3⟩ := b_text 0 h w (xs (6 * j + 1))
  obtain ⟨x, rfl⟩ := int_of ri_X11_text h1
  refine lw_st (ps_aload_n dL_law_351 rfl) C hcs rfl ?_
  refine lw_arg (kk := 1) dL_law_352 dL_law_353 dL_law_355 dL_law_356 dL_law_357 rfl C hcs (by omega) hL ?_
  refine lw_cV (rest := []) (cc0 := 0) sc_L_358 C hcs (by decide) h1 rfl rfl (Nat.le_of_ble_eq_true rfl) rfl ?_
  refine lw_st (ps_aload_n dL_law_361 rfl) C hcs rfl ?_
  refine lw_arg (kk := 1) dL_law_362 dL_law_363 dL_law_365 dL_law_366 dL_law_367 rfl C hcs (by omega) hL ?_
  refine lw_cV (rest := [.int x]) (cc0 := 133) sc_L_368 C hcs (by decide) h2 rfl rfl (Nat.le_of_ble_eq_true rfl) rfl ?_
  refine lw_st (ps_ceq (pc := 371) (t := 1642) dL_law_371 (by decide)) C hcs (ceq_eq x) ?_
  exact lw_tail C hcs (by omega) (K σ2 (LInv_X h3))
set_option maxRecDepth 20000 in
theorem lw_c5 (C : LC p s m args meth c D cA ad A L xs) (hcs : cells ≤ 601024 ∧ slots ≤ 7293034) (hL : L ≤ 3072) {j : Nat} (hj : 6 * j + 6 ≤ L) {w5 w6 : Value} {σ : pm_H} (hI : LInv j σ) (K : ∀ σ', LInv (j + 1) σ' → pm_G p l e room_1 s m args below meth c cells slots D cA ad A 7 Q (23, LO (j + 1) w5 w6, [], σ')) : pm_G p l e room_1 s m args below meth c cells slots D cA ad A 7 Q (444, LO j w5 w6, [], σ) := by
  obtain ⟨sz, T, R, n, a, e9, nl, V, h, w⟩ := hI
  obtain ⟨v, σ1, σ2, h1, h2, h3⟩ := b_rule 0 h (xs (6 * j + 1))
  obtain ⟨x, rfl⟩ := int_of ri_X11_rule h1
  refine lw_st (ps_aload_n dL_law_444 rfl) C hcs rfl ?_
  refine lw_arg (kk := 1) dL_law_445 dL_law_446 dL_law_448 dL_law_449 dL_law_450 rfl C hcs (by omega) hL ?_
  refine lw_cV (rest := []) (cc0 := 0) sc_L_451 C hcs (by decide) h1 rfl rfl (Nat.le_of_ble_eq_true rfl) rfl ?_
  refine lw_st (ps_aload_n dL_law_454 rfl) C hcs rfl ?_
  refine lw_arg (kk := 1) dL_law_455 dL_law_456 dL_law_458 dL_law_459 dL_law_460 rfl C hcs (by omega) hL ?_
  refine lw_cV (rest := [.int x]) (cc0 := 133) sc_L_461 C hcs (by decide) h2 rfl rfl (Nat.le_of_ble_eq_true rfl) rfl ?_
  refine lw_st (ps_ceq (pc := 464) (t := 1642) dL_law_464 (by decide)) C hcs (ceq_eq x) ?_
  exact lw_tail C hcs (by omega) (K σ2 (LInv_X ⟨sz, T, R, nl, V, PostW_B h3 w⟩))
set_option maxRecDepth 20000 in
theorem lw_c6 (C : LC p s m args meth c D cA ad A L xs) (hcs : cells ≤ 601024 ∧ slots ≤ 7293034) (hL : L ≤ 3072) {j : Nat} (hj : 6 * j + 6 ≤ L) {w5 w6 : Value} {σ : pm_H} (hI : LInv j σ) (K : ∀ σ', LInv (j + 1) σ' → pm_G p l e room_1 s m args below meth c cells slots D cA ad A 7 Q (23, LO (j + 1) w5 w6, [], σ')) : pm_G p l e room_1 s m args below meth c cells slots D cA ad A 7 Q (469, LO j w5 w6, [], σ) := by
  obtain ⟨sz, T, R, n, a, e9, nl, V, h, w⟩ := hI
  obtain ⟨v, σ1, σ2, h1, h2, h3⟩ := b_law 0 h w (xs (6 * j + 1)) (xs (6 * j + 2))
  obtain ⟨x, rfl⟩ := int_of ri_X11_law h1
  refine lw_st (ps_aload_n dL_law_469 rfl) C hcs rfl ?_
  refine lw_arg (kk := 1) dL_law_470 dL_law_471 dL_law_473 dL_law_474 dL_law_475 rfl C hcs (by omega) hL ?_
  refine lw_arg (kk := 2) dL_law_476 dL_law_477 dL_law_479 dL_law_480 dL_law_481 rfl C hcs (by omega) hL ?_
  refine lw_cV (rest := []) (cc0 := 0) sc_L_482 C hcs (by decide) h1 rfl rfl (Nat.le_of_ble_eq_true rfl) rfl ?_
  refine lw_st (ps_aload_n dL_law_485 rfl) C hcs rfl ?_
  refine lw_arg (kk := 1) dL_law_486 dL_law_487 dL_law_489 dL_law_490 dL_law_491 rfl C hcs (by omega) hL ?_
  refine lw_arg (kk := 2) dL_law_492 dL_law_493 dL_law_495 dL_law_496 dL_law_497 rfl C hcs (by omega) hL ?_
  refine lw_cV (rest := [.int x]) (cc0 := 133) sc_L_498 C hcs (by decide) h2 rfl rfl (Nat.le_of_ble_eq_true rfl) rfl ?_
  refine lw_st (ps_ceq (pc := 501) (t := 1642) dL_law_501 (by decide)) C hcs (ceq_eq x) ?_
  exact lw_tail C hcs (by omega) (K σ2 (LInv_X ⟨sz, T, R, nl, V, h3⟩))
set_option maxRecDepth 20000 in
theorem lw_c7 (C : LC p s m args meth c D cA ad A L xs) (hcs : cells ≤ 601024 ∧ slots ≤ 7293034) (hL : L ≤ 3072) {j : Nat} (hj : 6 * j + 6 ≤ L) {w5 w6 : Value} {σ : pm_H} (hI : LInv j σ) (K : ∀ σ', LInv (j + 1) σ' → pm_G p l e room_1 s m args below meth c cells slots D cA ad A 7 Q (23, LO (j + 1) w5 w6, [], σ')) : pm_G p l e room_1 s m args below meth c cells slots D cA ad A 7 Q (506, LO j w5 w6, [], σ) := by
  obtain ⟨sz, T, R, n, a, e9, nl, V, h, w⟩ := hI
  obtain ⟨v, σ1, σ2, h1, h2, h3⟩ := b_errs 0 h (xs (6 * j + 1))
  obtain ⟨x, rfl⟩ := int_of ri_X11_errs h1
  refine lw_st (ps_aload_n dL_law_506 rfl) C hcs rfl ?_
  refine lw_arg (kk := 1) dL_law_507 dL_law_508 dL_law_510 dL_law_511 dL_law_512 rfl C hcs (by omega) hL ?_
  refine lw_cV (rest := []) (cc0 := 0) sc_L_513 C hcs (by decide) h1 rfl rfl (Nat.le_of_ble_eq_true rfl) rfl ?_
  refine lw_st (ps_aload_n dL_law_516 rfl) C hcs rfl ?_
  refine lw_arg (kk := 1) dL_law_517 dL_law_518 dL_law_520 dL_law_521 dL_law_522 rfl C hcs (by omega) hL ?_
  refine lw_cV (rest := [.int x]) (cc0 := 133) sc_L_523 C hcs (by decide) h2 rfl rfl (Nat.le_of_ble_eq_true rfl) rfl ?_
  refine lw_st (ps_ceq (pc := 526) (t := 1642) dL_law_526 (by decide)) C hcs (ceq_eq x) ?_
  exact lw_tail C hcs (by omega) (K σ2 (LInv_X ⟨sz, T, R, nl, V, PostW_B h3 w⟩))
set_option maxRecDepth 20000 in
theorem lw_c8 (C : LC p s m args meth c D cA ad A L xs) (hcs : cells ≤ 601024 ∧ slots ≤ 7293034) (hL : L ≤ 3072) {j : Nat} (hj : 6 * j + 6 ≤ L) {w5 w6 : Value} {σ : pm_H} (hI : LInv j σ) (K : ∀ σ', LInv (j + 1) σ' → pm_G p l e room_1 s m args below meth c cells slots D cA ad A 7 Q (23, LO (j + 1) w5 w6, [], σ')) : pm_G p l e room_1 s m args below meth c cells slots D cA ad A 7 Q (531, LO j w5 w6, [], σ) := by
  obtain ⟨sz, T, R, n, a, e9, nl, V, h, w⟩ := hI
  obtain ⟨v, σ1, σ2, h1, h2, h3⟩ := b_next 0 h 
  obtain ⟨x, rfl⟩ := int_of ri_X11_next h1
  refine lw_st (ps_aload_n dL_law_531 rfl) C hcs rfl ?_
  refine lw_cV (rest := []) (cc0 := 0) sc_L_532 C hcs (by decide) h1 rfl rfl (Nat.le_of_ble_eq_true rfl) rfl ?_
  refine lw_st (ps_aload_n dL_law_535 rfl) C hcs rfl ?_
  refine lw_cV (rest := [.int x]) (cc0 := 133) sc_L_536 C hcs (by decide) h2 rfl rfl (Nat.le_of_ble_eq_true rfl) rfl ?_
  refine lw_st (ps_ceq (pc := 539) (t := 1642) dL_law_539 (by decide)) C hcs (ceq_eq x) ?_
  exact lw_tail C hcs (by omega) (K σ2 (LInv_X ⟨sz, T, R, nl, V, PostW_B h3 w⟩))
set_option maxRecDepth 20000 in
theorem lw_c9 (C : LC p s m args meth c D cA ad A L xs) (hcs : cells ≤ 601024 ∧ slots ≤ 7293034) (hL : L ≤ 3072) {j : Nat} (hj : 6 * j + 6 ≤ L) {w5 w6 : Value} {σ : pm_H} (hI : LInv j σ) (K : ∀ σ', LInv (j + 1) σ' → pm_G p l e room_1 s m args below meth c cells slots D cA ad A 7 Q (23, LO (j + 1) w5 w6, [], σ')) : pm_G p l e room_1 s m args below meth c cells slots D cA ad A 7 Q (544, LO j w5 w6, [], σ) := by
  obtain ⟨sz, T, R, n, a, e9, nl, V, h, w⟩ := hI
  obtain ⟨v, σ1, σ2, h1, h2, h3⟩ := b_odds 0 (by omega) h w (xs (6 * j + 1)) (xs (6 * j + 2))
  obtain ⟨x, rfl⟩ := int_of ri_X11_odds h1
  refine lw_st (ps_aload_n dL_law_544 rfl) C hcs rfl ?_
  refine lw_arg (kk := 1) dL_law_545 dL_law_546 dL_law_548 dL_law_549 dL_law_550 rfl C hcs (by omega) hL ?_
  refine lw_arg (kk := 2) dL_law_551 dL_law_552 dL_law_554 dL_law_555 dL_law_556 rfl C hcs (by omega) hL ?_
  refine lw_cV (rest := []) (cc0 := 0) sc_L_557 C hcs (by decide) h1 rfl rfl (Nat.le_of_ble_eq_true rfl) rfl ?_
  refine lw_st (ps_aload_n dL_law_560 rfl) C hcs rfl ?_
  refine lw_arg (kk := 1) dL_law_561 dL_law_562 dL_law_564 dL_law_565 dL_law_566 rfl C hcs (by omega) hL ?_
  refine lw_arg (kk := 2) dL_law_567 dL_law_568 dL_law_570 dL_law_571 dL_law_572 rfl C hcs (by omega) hL ?_
  refine lw_cV (rest := [.int x]) (cc0 := 133) sc_L_573 C hcs (by decide) h2 rfl rfl (Nat.le_of_ble_eq_true rfl) rfl ?_
  refine lw_st (ps_ceq (pc := 576) (t := 1642) dL_law_576 (by decide)) C hcs (ceq_eq x) ?_
  exact lw_tail C hcs (by omega) (K σ2 (LInv_X ⟨sz, T, R, nl, V, h3⟩))
set_option maxRecDepth 20000 in
theorem lw_c10 (C : LC p s m args meth c D cA ad A L xs) (hcs : cells ≤ 601024 ∧ slots ≤ 7293034) (hL : L ≤ 3072) {j : Nat} (hj : 6 * j + 6 ≤ L) {w5 w6 : Value} {σ : pm_H} (hI : LInv j σ) (K : ∀ σ', LInv (j + 1) σ' → pm_G p l e room_1 s m args below meth c cells slots D cA ad A 7 Q (23, LO (j + 1) w5 w6, [], σ')) : pm_G p l e room_1 s m args below meth c cells slots D cA ad A 7 Q (581, LO j w5 w6, [], σ) := by
  obtain ⟨sz, T, R, n, a, e9, nl, V, h, w⟩ := hI
  obtain ⟨v, σ1, σ2, h1, h2, h3⟩ := b_value 0 h w (xs (6 * j + 1))
  obtain ⟨x, rfl⟩ := int_of ri_X11_value h1
  refine lw_st (ps_aload_n dL_law_581 rfl) C hcs rfl ?_
  refine lw_arg (kk := 1) dL_law_582 dL_law_583 dL_law_585 dL_law_586 dL_law_587 rfl C hcs (by omega) hL ?_
  refine lw_cV (rest := []) (cc0 := 0) sc_L_588 C hcs (by decide) h1 rfl rfl (Nat.le_of_ble_eq_true rfl) rfl ?_
  refine lw_st (ps_aload_n dL_law_591 rfl) C hcs rfl ?_
  refine lw_arg (kk := 1) dL_law_592 dL_law_593 dL_law_595 dL_law_596 dL_law_597 rfl C hcs (by omega) hL ?_
  refine lw_cV (rest := [.int x]) (cc0 := 133) sc_L_598 C hcs (by decide) h2 rfl rfl (Nat.le_of_ble_eq_true rfl) rfl ?_
  refine lw_st (ps_ceq (pc := 601) (t := 1642) dL_law_601 (by decide)) C hcs (ceq_eq x) ?_
  exact lw_tail C hcs (by omega) (K σ2 (LInv_X ⟨sz, T, R, nl, V, h3⟩))
set_option maxRecDepth 20000 in
theorem lw_c11 (C : LC p s m args meth c D cA ad A L xs) (hcs : cells ≤ 601024 ∧ slots ≤ 7293034) (hL : L ≤ 3072) {j : Nat} (hj : 6 * j + 6 ≤ L) {w5 w6 : Value} {σ : pm_H} (hI : LInv j σ) (K : ∀ σ', LInv (j + 1) σ' → pm_G p l e room_1 s m args below meth c cells slots D cA ad A 7 Q (23, LO (j + 1) w5 w6, [], σ')) : pm_G p l e room_1 s m args below meth c cells slots D cA ad A 7 Q (606, LO j w5 w6, [], σ) := by
  obtain ⟨sz, T, R, n, a, e9, nl, V, h, w⟩ := hI
  obtain ⟨v, σ1, σ2, h1, h2, h3⟩ := b_lift 0 h (xs (6 * j + 1))
  obtain ⟨x, rfl⟩ := int_of ri_X11_lift h1
  refine lw_st (ps_aload_n dL_law_606 rfl) C hcs rfl ?_
  refine lw_arg (kk := 1) dL_law_607 dL_law_608 dL_law_610 dL_law_611 dL_law_612 rfl C hcs (by omega) hL ?_
  refine lw_cV (rest := []) (cc0 := 0) sc_L_613 C hcs (by decide) h1 rfl rfl (Nat.le_of_ble_eq_true rfl) rfl ?_
  refine lw_st (ps_aload_n dL_law_616 rfl) C hcs rfl ?_
  refine lw_arg (kk := 1) dL_law_617 dL_law_618 dL_law_620 dL_law_621 dL_law_622 rfl C hcs (by omega) hL ?_
  refine lw_cV (rest := [.int x]) (cc0 := 133) sc_L_623 C hcs (by decide) h2 rfl rfl (Nat.le_of_ble_eq_true rfl) rfl ?_
  refine lw_st (ps_ceq (pc := 626) (t := 1642) dL_law_626 (by decide)) C hcs (ceq_eq x) ?_
  exact lw_tail C hcs (by omega) (K σ2 (LInv_X ⟨sz, T, R, nl, V, PostW_B h3 w⟩))
set_option maxRecDepth 20000 in
theorem lw_c12 (C : LC p s m args meth c D cA ad A L xs) (hcs : cells ≤ 601024 ∧ slots ≤ 7293034) (hL : L ≤ 3072) {j : Nat} (hj : 6 * j + 6 ≤ L) {w5 w6 : Value} {σ : pm_H} (hI : LInv j σ) (K : ∀ σ', LInv (j + 1) σ' → pm_G p l e room_1 s m args below meth c cells slots D cA ad A 7 Q (23, LO (j + 1) w5 w6, [], σ')) : pm_G p l e room_1 s m args below meth c cells slots D cA ad A 7 Q (631, LO j w5 w6, [], σ) := by
  obtain ⟨sz, T, R, n, a, e9, nl, V, h, w⟩ := hI
  obtain ⟨v, σ1, σ2, h1, h2, h3⟩ := b_change 0 h (xs (6 * j + 1)) (xs (6 * j + 2))
  obtain ⟨x, rfl⟩ := int_of ri_X11_change h1
  refine lw_st (ps_aload_n dL_law_631 rfl) C hcs rfl ?_
  refine lw_arg (kk := 1) dL_law_632 dL_law_633 dL_law_635 dL_law_636 dL_law_637 rfl C hcs (by omega) hL ?_
  refine lw_arg (kk := 2) dL_law_638 dL_law_639 dL_law_641 dL_law_642 dL_law_643 rfl C hcs (by omega) hL ?_
  refine lw_cV (rest := []) (cc0 := 0) sc_L_644 C hcs (by decide) h1 rfl rfl (Nat.le_of_ble_eq_true rfl) rfl ?_
  refine lw_st (ps_aload_n dL_law_647 rfl) C hcs rfl ?_
  refine lw_arg (kk := 1) dL_law_648 dL_law_649 dL_law_651 dL_law_652 dL_law_653 rfl C hcs (by omega) hL ?_
  refine lw_arg (kk := 2) dL_law_654 dL_law_655 dL_law_657 dL_law_658 dL_law_659 rfl C hcs (by omega) hL ?_
  refine lw_cV (rest := [.int x]) (cc0 := 133) sc_L_660 C hcs (by decide) h2 rfl rfl (Nat.le_of_ble_eq_true rfl) rfl ?_
  refine lw_st (ps_ceq (pc := 663) (t := 1642) dL_law_663 (by decide)) C hcs (ceq_eq x) ?_
  exact lw_tail C hcs (by omega) (K σ2 (LInv_X ⟨sz, T, R, nl, V, PostW_B h3 w⟩))
set_option maxRecDepth 20000 in
theorem lw_c13 (C : LC p s m args meth c D cA ad A L xs) (hcs : cells ≤ 601024 ∧ slots ≤ 7293034) (hL : L ≤ 3072) {j : Nat} (hj : 6 * j + 6 ≤ L) {w5 w6 : Value} {σ : pm_H} (hI : LInv j σ) (K : ∀ σ', LInv (j + 1) σ' → pm_G p l e room_1 s m args below meth c cells slots D cA ad A 7 Q (23, LO (j + 1) w5 w6, [], σ')) : pm_G p l e room_1 s m args below meth c cells slots D cA ad A 7 Q (668, LO j w5 w6, [], σ) := by
  obtain ⟨sz, T, R, n, a, e9, nl, V, h, w⟩ := hI
  obtain ⟨v, σ1, σ2, h1, h2, h3⟩ := b_home 0 h (xs (6 * j + 1))
  obtain ⟨x, rfl⟩ := int_of ri_X11_home h1
  refine lw_st (ps_aload_n dL_law_668 rfl) C hcs rfl ?_
  refine lw_arg (kk := 1) dL_law_669 dL_law_670 dL_law_672 dL_law_673 dL_law_674 rfl C hcs (by omega) hL ?_
  refine lw_cV (rest := []) (cc0 := 0) sc_L_675 C hcs (by decide) h1 rfl rfl (Nat.le_of_ble_eq_true rfl) rfl ?_
  refine lw_st (ps_aload_n dL_law_678 rfl) C hcs rfl ?_
  refine lw_arg (kk := 1) dL_law_679 dL_law_680 dL_law_682 dL_law_683 dL_law_684 rfl C hcs (by omega) hL ?_
  refine lw_cV (rest := [.int x]) (cc0 := 133) sc_L_685 C hcs (by decide) h2 rfl rfl (Nat.le_of_ble_eq_true rfl) rfl ?_
  refine lw_st (ps_ceq (pc := 688) (t := 1642) dL_law_688 (by decide)) C hcs (ceq_eq x) ?_
  exact lw_tail C hcs (by omega) (K σ2 (LInv_X ⟨sz, T, R, nl, V, PostW_B h3 w⟩))
set_option maxRecDepth 20000 in
theorem lw_c14 (C : LC p s m args meth c D cA ad A L xs) (hcs : cells ≤ 601024 ∧ slots ≤ 7293034) (hL : L ≤ 3072) {j : Nat} (hj : 6 * j + 6 ≤ L) {w5 w6 : Value} {σ : pm_H} (hI : LInv j σ) (K : ∀ σ', LInv (j + 1) σ' → pm_G p l e room_1 s m args below meth c cells slots D cA ad A 7 Q (23, LO (j + 1) w5 w6, [], σ')) : pm_G p l e room_1 s m args below meth c cells slots D cA ad A 7 Q (693, LO j w5 w6, [], σ) := by
  obtain ⟨sz, T, R, n, a, e9, nl, V, h, w⟩ := hI
  obtain ⟨v, σ1, σ2, h1, h2, h3⟩ := b_warm 0 h (xs (6 * j + 1))
  obtain ⟨x, rfl⟩ := int_of ri_X11_warm h1
  refine lw_st (ps_aload_n dL_law_693 rfl) C hcs rfl ?_
  refine lw_arg (kk := 1) dL_law_694 dL_law_695 dL_law_697 dL_law_698 dL_law_699 rfl C hcs (by omega) hL ?_
  refine lw_cV (rest := []) (cc0 := 0) sc_L_700 C hcs (by decide) h1 rfl rfl (Nat.le_of_ble_eq_true rfl) rfl ?_
  refine lw_st (ps_aload_n dL_law_703 rfl) C hcs rfl ?_
  refine lw_arg (kk := 1) dL_law_704 dL_law_705 dL_law_707 dL_law_708 dL_law_709 rfl C hcs (by omega) hL ?_
  refine lw_cV (rest := [.int x]) (cc0 := 133) sc_L_710 C hcs (by decide) h2 rfl rfl (Nat.le_of_ble_eq_true rfl) rfl ?_
  refine lw_st (ps_ceq (pc := 713) (t := 1642) dL_law_713 (by decide)) C hcs (ceq_eq x) ?_
  exact lw_tail C hcs (by omega) (K σ2 (LInv_X ⟨sz, T, R, nl, V, PostW_B h3 w⟩))
set_option maxRecDepth 20000 in
theorem lw_c15 (C : LC p s m args meth c D cA ad A L xs) (hcs : cells ≤ 601024 ∧ slots ≤ 7293034) (hL : L ≤ 3072) {j : Nat} (hj : 6 * j + 6 ≤ L) {w5 w6 : Value} {σ : pm_H} (hI : LInv j σ) (K : ∀ σ', LInv (j + 1) σ' → pm_G p l e room_1 s m args below meth c cells slots D cA ad A 7 Q (23, LO (j + 1) w5 w6, [], σ')) : pm_G p l e room_1 s m args below meth c cells slots D cA ad A 7 Q (718, LO j w5 w6, [], σ) := by
  obtain ⟨sz, T, R, n, a, e9, nl, V, h, w⟩ := hI
  obtain ⟨v, σ1, σ2, h1, h2, h3⟩ := b_meet 0 (by omega) h w (xs (6 * j + 1)) ((xs (6 * j + 2)).toInt64 <<< ((32 : Int32).toInt64 &&& 63) ||| (xs (6 * j + 3)).toInt64 &&& 4294967295)
  obtain ⟨x, rfl⟩ := int_of ri_X11_meet h1
  refine lw_st (ps_aload_n dL_law_718 rfl) C hcs rfl ?_
  refine lw_arg (kk := 1) dL_law_719 dL_law_720 dL_law_722 dL_law_723 dL_law_724 rfl C hcs (by omega) hL ?_
  refine lw_arg (kk := 2) dL_law_725 dL_law_726 dL_law_728 dL_law_729 dL_law_730 rfl C hcs (by omega) hL ?_
  refine lw_st (ps_i2l dL_law_731) C hcs rfl ?_
  refine lw_st (ps_bipush (v := 32) dL_law_732 (by decide)) C hcs rfl ?_
  refine lw_st (ps_lshl dL_law_734) C hcs rfl ?_
  refine lw_arg (kk := 3) dL_law_735 dL_law_736 dL_law_738 dL_law_739 dL_law_740 rfl C hcs (by omega) hL ?_
  refine lw_st (ps_i2l dL_law_741) C hcs rfl ?_
  refine lw_st (ps_ldc2 (v := 4294967295) dL_law_742 pl_218) C hcs rfl ?_
  refine lw_st (ps_land dL_law_745) C hcs rfl ?_
  refine lw_st (ps_lor dL_law_746) C hcs rfl ?_
  refine lw_cV (rest := []) (cc0 := 0) sc_L_747 C hcs (by decide) h1 rfl rfl (Nat.le_of_ble_eq_true rfl) rfl ?_
  refine lw_st (ps_aload_n dL_law_750 rfl) C hcs rfl ?_
  refine lw_arg (kk := 1) dL_law_751 dL_law_752 dL_law_754 dL_law_755 dL_law_756 rfl C hcs (by omega) hL ?_
  refine lw_arg (kk := 2) dL_law_757 dL_law_758 dL_law_760 dL_law_761 dL_law_762 rfl C hcs (by omega) hL ?_
  refine lw_st (ps_i2l dL_law_763) C hcs rfl ?_
  refine lw_st (ps_bipush (v := 32) dL_law_764 (by decide)) C hcs rfl ?_
  refine lw_st (ps_lshl dL_law_766) C hcs rfl ?_
  refine lw_arg (kk := 3) dL_law_767 dL_law_768 dL_law_770 dL_law_771 dL_law_772 rfl C hcs (by omega) hL ?_
  refine lw_st (ps_i2l dL_law_773) C hcs rfl ?_
  refine lw_st (ps_ldc2 (v := 4294967295) dL_law_774 pl_218) C hcs rfl ?_
  refine lw_st (ps_land dL_law_777) C hcs rfl ?_
  refine lw_st (ps_lor dL_law_778) C hcs rfl ?_
  refine lw_cV (rest := [.int x]) (cc0 := 133) sc_L_779 C hcs (by decide) h2 rfl rfl (Nat.le_of_ble_eq_true rfl) rfl ?_
  refine lw_st (ps_ceq (pc := 782) (t := 1642) dL_law_782 (by decide)) C hcs (ceq_eq x) ?_
  exact lw_tail C hcs (by omega) (K σ2 (LInv_X ⟨sz, T, R, nl, V, h3⟩))
set_option maxRecDepth 20000 in
theorem lw_c16 (C : LC p s m args meth c D cA ad A L xs) (hcs : cells ≤ 601024 ∧ slots ≤ 7293034) (hL : L ≤ 3072) {j : Nat} (hj : 6 * j + 6 ≤ L) {w5 w6 : Value} {σ : pm_H} (hI : LInv j σ) (K : ∀ σ', LInv (j + 1) σ' → pm_G p l e room_1 s m args below meth c cells slots D cA ad A 7 Q (23, LO (j + 1) w5 w6, [], σ')) : pm_G p l e room_1 s m args below meth c cells slots D cA ad A 7 Q (787, LO j w5 w6, [], σ) := by
  obtain ⟨sz, T, R, n, a, e9, nl, V, h, w⟩ := hI
  obtain ⟨v, σ1, σ2, h1, h2, h3⟩ := b_undo 0 h 
  obtain ⟨x, rfl⟩ := int_of ri_X11_undo h1
  refine lw_st (ps_aload_n dL_law_787 rfl) C hcs rfl ?_
  refine lw_cV (rest := []) (cc0 := 0) sc_L_788 C hcs (by decide) h1 rfl rfl (Nat.le_of_ble_eq_true rfl) rfl ?_
  refine lw_st (ps_aload_n dL_law_791 rfl) C hcs rfl ?_
  refine lw_cV (rest := [.int x]) (cc0 := 133) sc_L_792 C hcs (by decide) h2 rfl rfl (Nat.le_of_ble_eq_true rfl) rfl ?_
  refine lw_st (ps_ceq (pc := 795) (t := 1642) dL_law_795 (by decide)) C hcs (ceq_eq x) ?_
  exact lw_tail C hcs (by omega) (K σ2 (LInv_X ⟨sz, T, R, nl, V, PostW_B h3 w⟩))
set_option maxRecDepth 20000 in
theorem lw_c17 (C : LC p s m args meth c D cA ad A L xs) (hcs : cells ≤ 601024 ∧ slots ≤ 7293034) (hL : L ≤ 3072) {j : Nat} (hj : 6 * j + 6 ≤ L) {w5 w6 : Value} {σ : pm_H} (hI : LInv j σ) (K : ∀ σ', LInv (j + 1) σ' → pm_G p l e room_1 s m args below meth c cells slots D cA ad A 7 Q (23, LO (j + 1) w5 w6, [], σ')) : pm_G p l e room_1 s m args below meth c cells slots D cA ad A 7 Q (800, LO j w5 w6, [], σ) := by
  obtain ⟨sz, T, R, n, a, e9, nl, V, h, w⟩ := hI
  obtain ⟨v, σ1, σ2, h1, h2, h3⟩ := b_sheet 0 h (xs (6 * j + 1)) (xs (6 * j + 2))
  obtain ⟨x, rfl⟩ := int_of ri_X11_sheet h1
  refine lw_st (ps_aload_n dL_law_800 rfl) C hcs rfl ?_
  refine lw_arg (kk := 1) dL_law_801 dL_law_802 dL_law_804 dL_law_805 dL_law_806 rfl C hcs (by omega) hL ?_
  refine lw_arg (kk := 2) dL_law_807 dL_law_808 dL_law_810 dL_law_811 dL_law_812 rfl C hcs (by omega) hL ?_
  refine lw_cV (rest := []) (cc0 := 0) sc_L_813 C hcs (by decide) h1 rfl rfl (Nat.le_of_ble_eq_true rfl) rfl ?_
  refine lw_st (ps_aload_n dL_law_816 rfl) C hcs rfl ?_
  refine lw_arg (kk := 1) dL_law_817 dL_law_818 dL_law_820 dL_law_821 dL_law_822 rfl C hcs (by omega) hL ?_
  refine lw_arg (kk := 2) dL_law_823 dL_law_824 dL_law_826 dL_law_827 dL_law_828 rfl C hcs (by omega) hL ?_
  refine lw_cV (rest := [.int x]) (cc0 := 133) sc_L_829 C hcs (by decide) h2 rfl rfl (Nat.le_of_ble_eq_true rfl) rfl ?_
  refine lw_st (ps_ceq (pc := 832) (t := 1642) dL_law_832 (by decide)) C hcs (ceq_eq x) ?_
  exact lw_tail C hcs (by omega) (K σ2 (LInv_X ⟨sz, T, R, nl, V, PostW_B h3 w⟩))
set_option maxRecDepth 20000 in
theorem lw_c18 (C : LC p s m args meth c D cA ad A L xs) (hcs : cells ≤ 601024 ∧ slots ≤ 7293034) (hL : L ≤ 3072) {j : Nat} (hj : 6 * j + 6 ≤ L) {w5 w6 : Value} {σ : pm_H} (hI : LInv j σ) (K : ∀ σ', LInv (j + 1) σ' → pm_G p l e room_1 s m args below meth c cells slots D cA ad A 7 Q (23, LO (j + 1) w5 w6, [], σ')) : pm_G p l e room_1 s m args below meth c cells slots D cA ad A 7 Q (837, LO j w5 w6, [], σ) := by
  obtain ⟨sz, T, R, n, a, e9, nl, V, h, w⟩ := hI
  obtain ⟨v, σ1, σ2, h1, h2, h3⟩ := b_left 0 h 
  obtain ⟨x, rfl⟩ := int_of ri_X11_left h1
  refine lw_st (ps_aload_n dL_law_837 rfl) C hcs rfl ?_
  refine lw_cV (rest := []) (cc0 := 0) sc_L_838 C hcs (by decide) h1 rfl rfl (Nat.le_of_ble_eq_true rfl) rfl ?_
  refine lw_st (ps_aload_n dL_law_841 rfl) C hcs rfl ?_
  refine lw_cV (rest := [.int x]) (cc0 := 133) sc_L_842 C hcs (by decide) h2 rfl rfl (Nat.le_of_ble_eq_true rfl) rfl ?_
  refine lw_st (ps_ceq (pc := 845) (t := 1642) dL_law_845 (by decide)) C hcs (ceq_eq x) ?_
  exact lw_tail C hcs (by omega) (K σ2 (LInv_X ⟨sz, T, R, nl, V, PostW_B h3 w⟩))
set_option maxRecDepth 20000 in
theorem lw_c19 (C : LC p s m args meth c D cA ad A L xs) (hcs : cells ≤ 601024 ∧ slots ≤ 7293034) (hL : L ≤ 3072) {j : Nat} (hj : 6 * j + 6 ≤ L) {w5 w6 : Value} {σ : pm_H} (hI : LInv j σ) (K : ∀ σ', LInv (j + 1) σ' → pm_G p l e room_1 s m args below meth c cells slots D cA ad A 7 Q (23, LO (j + 1) w5 w6, [], σ')) : pm_G p l e room_1 s m args below meth c cells slots D cA ad A 7 Q (850, LO j w5 w6, [], σ) := by
  obtain ⟨sz, T, R, n, a, e9, nl, V, h, w⟩ := hI
  obtain ⟨v, σ1, σ2, h1, h2, h3⟩ := b_wins 0 (by omega) h w (xs (6 * j + 1)) (xs (6 * j + 2))
  obtain ⟨x, rfl⟩ := int_of ri_X11_wins h1
  refine lw_st (ps_aload_n dL_law_850 rfl) C hcs rfl ?_
  refine lw_arg (kk := 1) dL_law_851 dL_law_852 dL_law_854 dL_law_855 dL_law_856 rfl C hcs (by omega) hL ?_
  refine lw_arg (kk := 2) dL_law_857 dL_law_858 dL_law_860 dL_law_861 dL_law_862 rfl C hcs (by omega) hL ?_
  refine lw_cV (rest := []) (cc0 := 0) sc_L_863 C hcs (by decide) h1 rfl rfl (Nat.le_of_ble_eq_true rfl) rfl ?_
  refine lw_st (ps_aload_n dL_law_866 rfl) C hcs rfl ?_
  refine lw_arg (kk := 1) dL_law_867 dL_law_868 dL_law_870 dL_law_871 dL_law_872 rfl C hcs (by omega) hL ?_
  refine lw_arg (kk := 2) dL_law_873 dL_law_874 dL_law_876 dL_law_877 dL_law_878 rfl C hcs (by omega) hL ?_
  refine lw_cV (rest := [.int x]) (cc0 := 133) sc_L_879 C hcs (by decide) h2 rfl rfl (Nat.le_of_ble_eq_true rfl) rfl ?_
  refine lw_st (ps_ceq (pc := 882) (t := 1642) dL_law_882 (by decide)) C hcs (ceq_eq x) ?_
  exact lw_tail C hcs (by omega) (K σ2 (LInv_X ⟨sz, T, R, nl, V, h3⟩))
set_option maxRecDepth 20000 in
theorem lw_c20 (C : LC p s m args meth c D cA ad A L xs) (hcs : cells ≤ 601024 ∧ slots ≤ 7293034) (hL : L ≤ 3072) {j : Nat} (hj : 6 * j + 6 ≤ L) {w5 w6 : Value} {σ : pm_H} (hI : LInv j σ) (K : ∀ σ', LInv (j + 1) σ' → pm_G p l e room_1 s m args below meth c cells slots D cA ad A 7 Q (23, LO (j + 1) w5 w6, [], σ')) : pm_G p l e room_1 s m args below meth c cells slots D cA ad A 7 Q (887, LO j w5 w6, [], σ) := by
  obtain ⟨sz, T, R, n, a, e9, nl, V, h, w⟩ := hI
  obtain ⟨v, σ1, σ2, h1, h2, h3⟩ := b_mean 0 (by omega) h w (xs (6 * j + 1))
  obtain ⟨x, rfl⟩ := int_of ri_X11_mean h1
  refine lw_st (ps_aload_n dL_law_887 rfl) C hcs rfl ?_
  refine lw_arg (kk := 1) dL_law_888 dL_law_889 dL_law_891 dL_law_892 dL_law_893 rfl C hcs (by omega) hL ?_
  refine lw_cV (rest := []) (cc0 := 0) sc_L_894 C hcs (by decide) h1 rfl rfl (Nat.le_of_ble_eq_true rfl) rfl ?_
  refine lw_st (ps_aload_n dL_law_897 rfl) C hcs rfl ?_
  refine lw_arg (kk := 1) dL_law_898 dL_law_899 dL_law_901 dL_law_902 dL_law_903 rfl C hcs (by omega) hL ?_
  refine lw_cV (rest := [.int x]) (cc0 := 133) sc_L_904 C hcs (by decide) h2 rfl rfl (Nat.le_of_ble_eq_true rfl) rfl ?_
  refine lw_st (ps_ceq (pc := 907) (t := 1642) dL_law_907 (by decide)) C hcs (ceq_eq x) ?_
  exact lw_tail C hcs (by omega) (K σ2 (LInv_X ⟨sz, T, R, nl, V, h3⟩))
set_option maxRecDepth 20000 in
theorem lw_c21 (C : LC p s m args meth c D cA ad A L xs) (hcs : cells ≤ 601024 ∧ slots ≤ 7293034) (hL : L ≤ 3072) {j : Nat} (hj : 6 * j + 6 ≤ L) {w5 w6 : Value} {σ : pm_H} (hI : LInv j σ) (K : ∀ σ', LInv (j + 1) σ' → pm_G p l e room_1 s m args below meth c cells slots D cA ad A 7 Q (23, LO (j + 1) w5 w6, [], σ')) : pm_G p l e room_1 s m args below meth c cells slots D cA ad A 7 Q (912, LO j w5 w6, [], σ) := by
  obtain ⟨sz, T, R, n, a, e9, nl, V, h, w⟩ := hI
  obtain ⟨v, σ1, σ2, h1, h2, h3⟩ := b_advice 0 (by omega) h w (xs (6 * j + 1)) (xs (6 * j + 2))
  obtain ⟨x, rfl⟩ := int_of ri_X11_advice h1
  refine lw_st (ps_aload_n dL_law_912 rfl) C hcs rfl ?_
  refine lw_arg (kk := 1) dL_law_913 dL_law_914 dL_law_916 dL_law_917 dL_law_918 rfl C hcs (by omega) hL ?_
  refine lw_arg (kk := 2) dL_law_919 dL_law_920 dL_law_922 dL_law_923 dL_law_924 rfl C hcs (by omega) hL ?_
  refine lw_cV (rest := []) (cc0 := 0) sc_L_925 C hcs (by decide) h1 rfl rfl (Nat.le_of_ble_eq_true rfl) rfl ?_
  refine lw_st (ps_aload_n dL_law_928 rfl) C hcs rfl ?_
  refine lw_arg (kk := 1) dL_law_929 dL_law_930 dL_law_932 dL_law_933 dL_law_934 rfl C hcs (by omega) hL ?_
  refine lw_arg (kk := 2) dL_law_935 dL_law_936 dL_law_938 dL_law_939 dL_law_940 rfl C hcs (by omega) hL ?_
  refine lw_cV (rest := [.int x]) (cc0 := 133) sc_L_941 C hcs (by decide) h2 rfl rfl (Nat.le_of_ble_eq_true rfl) rfl ?_
  refine lw_st (ps_ceq (pc := 944) (t := 1642) dL_law_944 (by decide)) C hcs (ceq_eq x) ?_
  exact lw_tail C hcs (by omega) (K σ2 (LInv_X ⟨sz, T, R, nl, V, h3⟩))
set_option maxRecDepth 20000 in
theorem lw_c22 (C : LC p s m args meth c D cA ad A L xs) (hcs : cells ≤ 601024 ∧ slots ≤ 7293034) (hL : L ≤ 3072) {j : Nat} (hj : 6 * j + 6 ≤ L) {w5 w6 : Value} {σ : pm_H} (hI : LInv j σ) (K : ∀ σ', LInv (j + 1) σ' → pm_G p l e room_1 s m args below meth c cells slots D cA ad A 7 Q (23, LO (j + 1) w5 w6, [], σ')) : pm_G p l e room_1 s m args below meth c cells slots D cA ad A 7 Q (949, LO j w5 w6, [], σ) := by
  obtain ⟨sz, T, R, n, a, e9, nl, V, h, w⟩ := hI
  obtain ⟨v, σ1, σ2, h1, h2, h3⟩ := b_rests 0 (by omega) h w (xs (6 * j + 1))
  obtain ⟨x, rfl⟩ := int_of ri_X11_rests h1
  refine lw_st (ps_aload_n dL_law_949 rfl) C hcs rfl ?_
  refine lw_arg (kk := 1) dL_law_950 dL_law_951 dL_law_953 dL_law_954 dL_law_955 rfl C hcs (by omega) hL ?_
  refine lw_cV (rest := []) (cc0 := 0) sc_L_956 C hcs (by decide) h1 rfl rfl (Nat.le_of_ble_eq_true rfl) rfl ?_
  refine lw_st (ps_aload_n dL_law_959 rfl) C hcs rfl ?_
  refine lw_arg (kk := 1) dL_law_960 dL_law_961 dL_law_963 dL_law_964 dL_law_965 rfl C hcs (by omega) hL ?_
  refine lw_cV (rest := [.int x]) (cc0 := 133) sc_L_966 C hcs (by decide) h2 rfl rfl (Nat.le_of_ble_eq_true rfl) rfl ?_
  refine lw_st (ps_ceq (pc := 969) (t := 1642) dL_law_969 (by decide)) C hcs (ceq_eq x) ?_
  exact lw_tail C hcs (by omega) (K σ2 (LInv_X ⟨sz, T, R, nl, V, h3⟩))
set_option maxRecDepth 20000 in
theorem lw_c23 (C : LC p s m args meth c D cA ad A L xs) (hcs : cells ≤ 601024 ∧ slots ≤ 7293034) (hL : L ≤ 3072) {j : Nat} (hj : 6 * j + 6 ≤ L) {w5 w6 : Value} {σ : pm_H} (hI : LInv j σ) (K : ∀ σ', LInv (j + 1) σ' → pm_G p l e room_1 s m args below meth c cells slots D cA ad A 7 Q (23, LO (j + 1) w5 w6, [], σ')) : pm_G p l e room_1 s m args below meth c cells slots D cA ad A 7 Q (974, LO j w5 w6, [], σ) := by
  obtain ⟨sz, T, R, n, a, e9, nl, V, h, w⟩ := hI
  obtain ⟨v, σ1, σ2, h1, h2, h3⟩ := b_alone 0 (by omega) h w (xs (6 * j + 1)) (xs (6 * j + 2))
  obtain ⟨x, rfl⟩ := int_of ri_X11_alone h1
  refine lw_st (ps_aload_n dL_law_974 rfl) C hcs rfl ?_
  refine lw_arg (kk := 1) dL_law_975 dL_law_976 dL_law_978 dL_law_979 dL_law_980 rfl C hcs (by omega) hL ?_
  refine lw_arg (kk := 2) dL_law_981 dL_law_982 dL_law_984 dL_law_985 dL_law_986 rfl C hcs (by omega) hL ?_
  refine lw_cV (rest := []) (cc0 := 0) sc_L_987 C hcs (by decide) h1 rfl rfl (Nat.le_of_ble_eq_true rfl) rfl ?_
  refine lw_st (ps_aload_n dL_law_990 rfl) C hcs rfl ?_
  refine lw_arg (kk := 1) dL_law_991 dL_law_992 dL_law_994 dL_law_995 dL_law_996 rfl C hcs (by omega) hL ?_
  refine lw_arg (kk := 2) dL_law_997 dL_law_998 dL_law_1000 dL_law_1001 dL_law_1002 rfl C hcs (by omega) hL ?_
  refine lw_cV (rest := [.int x]) (cc0 := 133) sc_L_1003 C hcs (by decide) h2 rfl rfl (Nat.le_of_ble_eq_true rfl) rfl ?_
  refine lw_st (ps_ceq (pc := 1006) (t := 1642) dL_law_1006 (by decide)) C hcs (ceq_eq x) ?_
  exact lw_tail C hcs (by omega) (K σ2 (LInv_X ⟨sz, T, R, nl, V, h3⟩))
set_option maxRecDepth 20000 in
theorem lw_c24 (C : LC p s m args meth c D cA ad A L xs) (hcs : cells ≤ 601024 ∧ slots ≤ 7293034) (hL : L ≤ 3072) {j : Nat} (hj : 6 * j + 6 ≤ L) {w5 w6 : Value} {σ : pm_H} (hI : LInv j σ) (K : ∀ σ', LInv (j + 1) σ' → pm_G p l e room_1 s m args below meth c cells slots D cA ad A 7 Q (23, LO (j + 1) w5 w6, [], σ')) : pm_G p l e room_1 s m args below meth c cells slots D cA ad A 7 Q (1011, LO j w5 w6, [], σ) := by
  obtain ⟨sz, T, R, n, a, e9, nl, V, h, w⟩ := hI
  obtain ⟨v, σ1, σ2, h1, h2, h3⟩ := b_empty 0 (by omega) h w (xs (6 * j + 1))
  obtain ⟨x, rfl⟩ := int_of ri_X11_empty h1
  refine lw_st (ps_aload_n dL_law_1011 rfl) C hcs rfl ?_
  refine lw_arg (kk := 1) dL_law_1012 dL_law_1013 dL_law_1015 dL_law_1016 dL_law_1017 rfl C hcs (by omega) hL ?_
  refine lw_cV (rest := []) (cc0 := 0) sc_L_1018 C hcs (by decide) h1 rfl rfl (Nat.le_of_ble_eq_true rfl) rfl ?_
  refine lw_st (ps_aload_n dL_law_1021 rfl) C hcs rfl ?_
  refine lw_arg (kk := 1) dL_law_1022 dL_law_1023 dL_law_1025 dL_law_1026 dL_law_1027 rfl C hcs (by omega) hL ?_
  refine lw_cV (rest := [.int x]) (cc0 := 133) sc_L_1028 C hcs (by decide) h2 rfl rfl (Nat.le_of_ble_eq_true rfl) rfl ?_
  refine lw_st (ps_ceq (pc := 1031) (t := 1642) dL_law_1031 (by decide)) C hcs (ceq_eq x) ?_
  exact lw_tail C hcs (by omega) (K σ2 (LInv_X ⟨sz, T, R, nl, V, h3⟩))
set_option maxRecDepth 20000 in
theorem lw_c25 (C : LC p s m args meth c D cA ad A L xs) (hcs : cells ≤ 601024 ∧ slots ≤ 7293034) (hL : L ≤ 3072) {j : Nat} (hj : 6 * j + 6 ≤ L) {w5 w6 : Value} {σ : pm_H} (hI : LInv j σ) (K : ∀ σ', LInv (j + 1) σ' → pm_G p l e room_1 s m args below meth c cells slots D cA ad A 7 Q (23, LO (j + 1) w5 w6, [], σ')) : pm_G p l e room_1 s m args below meth c cells slots D cA ad A 7 Q (1036, LO j w5 w6, [], σ) := by
  obtain ⟨sz, T, R, n, a, e9, nl, V, h, w⟩ := hI
  obtain ⟨v, σ1, σ2, h1, h2, h3⟩ := b_needs 0 h (xs (6 * j + 1)) (xs (6 * j + 2))
  obtain ⟨x, rfl⟩ := int_of ri_X11_needs h1
  refine lw_st (ps_aload_n dL_law_1036 rfl) C hcs rfl ?_
  refine lw_arg (kk := 1) dL_law_1037 dL_law_1038 dL_law_1040 dL_law_1041 dL_law_1042 rfl C hcs (by omega) hL ?_
  refine lw_arg (kk := 2) dL_law_1043 dL_law_1044 dL_law_1046 dL_law_1047 dL_law_1048 rfl C hcs (by omega) hL ?_
  refine lw_cV (rest := []) (cc0 := 0) sc_L_1049 C hcs (by decide) h1 rfl rfl (Nat.le_of_ble_eq_true rfl) rfl ?_
  refine lw_st (ps_aload_n dL_law_1052 rfl) C hcs rfl ?_
  refine lw_arg (kk := 1) dL_law_1053 dL_law_1054 dL_law_1056 dL_law_1057 dL_law_1058 rfl C hcs (by omega) hL ?_
  refine lw_arg (kk := 2) dL_law_1059 dL_law_1060 dL_law_1062 dL_law_1063 dL_law_1064 rfl C hcs (by omega) hL ?_
  refine lw_cV (rest := [.int x]) (cc0 := 133) sc_L_1065 C hcs (by decide) h2 rfl rfl (Nat.le_of_ble_eq_true rfl) rfl ?_
  refine lw_st (ps_ceq (pc := 1068) (t := 1642) dL_law_1068 (by decide)) C hcs (ceq_eq x) ?_
  exact lw_tail C hcs (by omega) (K σ2 (LInv_X ⟨sz, T, R, nl, V, PostW_B h3 w⟩))
set_option maxRecDepth 20000 in
theorem lw_c26 (C : LC p s m args meth c D cA ad A L xs) (hcs : cells ≤ 601024 ∧ slots ≤ 7293034) (hL : L ≤ 3072) {j : Nat} (hj : 6 * j + 6 ≤ L) {w5 w6 : Value} {σ : pm_H} (hI : LInv j σ) (K : ∀ σ', LInv (j + 1) σ' → pm_G p l e room_1 s m args below meth c cells slots D cA ad A 7 Q (23, LO (j + 1) w5 w6, [], σ')) : pm_G p l e room_1 s m args below meth c cells slots D cA ad A 7 Q (1073, LO j w5 w6, [], σ) := by
  obtain ⟨sz, T, R, n, a, e9, nl, V, h, w⟩ := hI
  obtain ⟨v, σ1, σ2, h1, h2, h3⟩ := b_waits 0 h (xs (6 * j + 1))
  obtain ⟨x, rfl⟩ := int_of ri_X11_waits h1
  refine lw_st (ps_aload_n dL_law_1073 rfl) C hcs rfl ?_
  refine lw_arg (kk := 1) dL_law_1074 dL_law_1075 dL_law_1077 dL_law_1078 dL_law_1079 rfl C hcs (by omega) hL ?_
  refine lw_cV (rest := []) (cc0 := 0) sc_L_1080 C hcs (by decide) h1 rfl rfl (Nat.le_of_ble_eq_true rfl) rfl ?_
  refine lw_st (ps_aload_n dL_law_1083 rfl) C hcs rfl ?_
  refine lw_arg (kk := 1) dL_law_1084 dL_law_1085 dL_law_1087 dL_law_1088 dL_law_1089 rfl C hcs (by omega) hL ?_
  refine lw_cV (rest := [.int x]) (cc0 := 133) sc_L_1090 C hcs (by decide) h2 rfl rfl (Nat.le_of_ble_eq_true rfl) rfl ?_
  refine lw_st (ps_ceq (pc := 1093) (t := 1642) dL_law_1093 (by decide)) C hcs (ceq_eq x) ?_
  exact lw_tail C hcs (by omega) (K σ2 (LInv_X ⟨sz, T, R, nl, V, PostW_B h3 w⟩))
set_option maxRecDepth 20000 in
theorem lw_c27 (C : LC p s m args meth c D cA ad A L xs) (hcs : cells ≤ 601024 ∧ slots ≤ 7293034) (hL : L ≤ 3072) {j : Nat} (hj : 6 * j + 6 ≤ L) {w5 w6 : Value} {σ : pm_H} (hI : LInv j σ) (K : ∀ σ', LInv (j + 1) σ' → pm_G p l e room_1 s m args below meth c cells slots D cA ad A 7 Q (23, LO (j + 1) w5 w6, [], σ')) : pm_G p l e room_1 s m args below meth c cells slots D cA ad A 7 Q (1098, LO j w5 w6, [], σ) := by
  obtain ⟨sz, T, R, n, a, e9, nl, V, h, w⟩ := hI
  obtain ⟨v, σ1, σ2, h1, h2, h3⟩ := b_colder 0 (by omega) h w (xs (6 * j + 1)) (xs (6 * j + 2))
  obtain ⟨x, rfl⟩ := int_of ri_X11_colder h1
  refine lw_st (ps_aload_n dL_law_1098 rfl) C hcs rfl ?_
  refine lw_arg (kk := 1) dL_law_1099 dL_law_1100 dL_law_1102 dL_law_1103 dL_law_1104 rfl C hcs (by omega) hL ?_
  refine lw_arg (kk := 2) dL_law_1105 dL_law_1106 dL_law_1108 dL_law_1109 dL_law_1110 rfl C hcs (by omega) hL ?_
  refine lw_cV (rest := []) (cc0 := 0) sc_L_1111 C hcs (by decide) h1 rfl rfl (Nat.le_of_ble_eq_true rfl) rfl ?_
  refine lw_st (ps_aload_n dL_law_1114 rfl) C hcs rfl ?_
  refine lw_arg (kk := 1) dL_law_1115 dL_law_1116 dL_law_1118 dL_law_1119 dL_law_1120 rfl C hcs (by omega) hL ?_
  refine lw_arg (kk := 2) dL_law_1121 dL_law_1122 dL_law_1124 dL_law_1125 dL_law_1126 rfl C hcs (by omega) hL ?_
  refine lw_cV (rest := [.int x]) (cc0 := 133) sc_L_1127 C hcs (by decide) h2 rfl rfl (Nat.le_of_ble_eq_true rfl) rfl ?_
  refine lw_st (ps_ceq (pc := 1130) (t := 1642) dL_law_1130 (by decide)) C hcs (ceq_eq x) ?_
  exact lw_tail C hcs (by omega) (K σ2 (LInv_X ⟨sz, T, R, nl, V, h3⟩))
set_option maxRecDepth 20000 in
theorem lw_c28 (C : LC p s m args meth c D cA ad A L xs) (hcs : cells ≤ 601024 ∧ slots ≤ 7293034) (hL : L ≤ 3072) {j : Nat} (hj : 6 * j + 6 ≤ L) {w5 w6 : Value} {σ : pm_H} (hI : LInv j σ) (K : ∀ σ', LInv (j + 1) σ' → pm_G p l e room_1 s m args below meth c cells slots D cA ad A 7 Q (23, LO (j + 1) w5 w6, [], σ')) : pm_G p l e room_1 s m args below meth c cells slots D cA ad A 7 Q (1135, LO j w5 w6, [], σ) := by
  obtain ⟨sz, T, R, n, a, e9, nl, V, h, w⟩ := hI
  obtain ⟨v, σ1, σ2, h1, h2, h3⟩ := b_much 0 h (xs (6 * j + 1)) (xs (6 * j + 2)) (xs (6 * j + 3)) (xs (6 * j + 4))
  obtain ⟨x, rfl⟩ := int_of ri_X11_much h1
  refine lw_st (ps_aload_n dL_law_1135 rfl) C hcs rfl ?_
  refine lw_arg (kk := 1) dL_law_1136 dL_law_1137 dL_law_1139 dL_law_1140 dL_law_1141 rfl C hcs (by omega) hL ?_
  refine lw_arg (kk := 2) dL_law_1142 dL_law_1143 dL_law_1145 dL_law_1146 dL_law_1147 rfl C hcs (by omega) hL ?_
  refine lw_arg (kk := 3) dL_law_1148 dL_law_1149 dL_law_1151 dL_law_1152 dL_law_1153 rfl C hcs (by omega) hL ?_
  refine lw_arg (kk := 4) dL_law_1154 dL_law_1155 dL_law_1157 dL_law_1158 dL_law_1159 rfl C hcs (by omega) hL ?_
  refine lw_cV (rest := []) (cc0 := 0) sc_L_1160 C hcs (by decide) h1 rfl rfl (Nat.le_of_ble_eq_true rfl) rfl ?_
  refine lw_st (ps_aload_n dL_law_1163 rfl) C hcs rfl ?_
  refine lw_arg (kk := 1) dL_law_1164 dL_law_1165 dL_law_1167 dL_law_1168 dL_law_1169 rfl C hcs (by omega) hL ?_
  refine lw_arg (kk := 2) dL_law_1170 dL_law_1171 dL_law_1173 dL_law_1174 dL_law_1175 rfl C hcs (by omega) hL ?_
  refine lw_arg (kk := 3) dL_law_1176 dL_law_1177 dL_law_1179 dL_law_1180 dL_law_1181 rfl C hcs (by omega) hL ?_
  refine lw_arg (kk := 4) dL_law_1182 dL_law_1183 dL_law_1185 dL_law_1186 dL_law_1187 rfl C hcs (by omega) hL ?_
  refine lw_cV (rest := [.int x]) (cc0 := 133) sc_L_1188 C hcs (by decide) h2 rfl rfl (Nat.le_of_ble_eq_true rfl) rfl ?_
  refine lw_st (ps_ceq (pc := 1191) (t := 1642) dL_law_1191 (by decide)) C hcs (ceq_eq x) ?_
  exact lw_tail C hcs (by omega) (K σ2 (LInv_X ⟨sz, T, R, nl, V, PostW_B h3 w⟩))
set_option maxRecDepth 20000 in
theorem lw_c29 (C : LC p s m args meth c D cA ad A L xs) (hcs : cells ≤ 601024 ∧ slots ≤ 7293034) (hL : L ≤ 3072) {j : Nat} (hj : 6 * j + 6 ≤ L) {w5 w6 : Value} {σ : pm_H} (hI : LInv j σ) (K : ∀ σ', LInv (j + 1) σ' → pm_G p l e room_1 s m args below meth c cells slots D cA ad A 7 Q (23, LO (j + 1) w5 w6, [], σ')) : pm_G p l e room_1 s m args below meth c cells slots D cA ad A 7 Q (1196, LO j w5 w6, [], σ) := by
  obtain ⟨sz, T, R, n, a, e9, nl, V, h, w⟩ := hI
  obtain ⟨v, σ1, σ2, h1, h2, h3⟩ := b_lose 0 h (xs (6 * j + 1))
  obtain ⟨x, rfl⟩ := int_of ri_X11_lose h1
  refine lw_st (ps_aload_n dL_law_1196 rfl) C hcs rfl ?_
  refine lw_arg (kk := 1) dL_law_1197 dL_law_1198 dL_law_1200 dL_law_1201 dL_law_1202 rfl C hcs (by omega) hL ?_
  refine lw_cV (rest := []) (cc0 := 0) sc_L_1203 C hcs (by decide) h1 rfl rfl (Nat.le_of_ble_eq_true rfl) rfl ?_
  refine lw_st (ps_aload_n dL_law_1206 rfl) C hcs rfl ?_
  refine lw_arg (kk := 1) dL_law_1207 dL_law_1208 dL_law_1210 dL_law_1211 dL_law_1212 rfl C hcs (by omega) hL ?_
  refine lw_cV (rest := [.int x]) (cc0 := 133) sc_L_1213 C hcs (by decide) h2 rfl rfl (Nat.le_of_ble_eq_true rfl) rfl ?_
  refine lw_st (ps_ceq (pc := 1216) (t := 1642) dL_law_1216 (by decide)) C hcs (ceq_eq x) ?_
  exact lw_tail C hcs (by omega) (K σ2 (LInv_X ⟨sz, T, R, nl, V, PostW_B h3 w⟩))
set_option maxRecDepth 20000 in
theorem lw_c30 (C : LC p s m args meth c D cA ad A L xs) (hcs : cells ≤ 601024 ∧ slots ≤ 7293034) (hL : L ≤ 3072) {j : Nat} (hj : 6 * j + 6 ≤ L) {w5 w6 : Value} {σ : pm_H} (hI : LInv j σ) (K : ∀ σ', LInv (j + 1) σ' → pm_G p l e room_1 s m args below meth c cells slots D cA ad A 7 Q (23, LO (j + 1) w5 w6, [], σ')) : pm_G p l e room_1 s m args below meth c cells slots D cA ad A 7 Q (1221, LO j w5 w6, [], σ) := by
  obtain ⟨sz, T, R, n, a, e9, nl, V, h, w⟩ := hI
  obtain ⟨v, σ1, σ2, h1, h2, h3⟩ := b_judge 0 h (xs (6 * j + 1)) (xs (6 * j + 2))
  obtain ⟨x, rfl⟩ := int_of ri_X11_judge h1
  refine lw_st (ps_aload_n dL_law_1221 rfl) C hcs rfl ?_
  refine lw_arg (kk := 1) dL_law_1222 dL_law_1223 dL_law_1225 dL_law_1226 dL_law_1227 rfl C hcs (by omega) hL ?_
  refine lw_arg (kk := 2) dL_law_1228 dL_law_1229 dL_law_1231 dL_law_1232 dL_law_1233 rfl C hcs (by omega) hL ?_
  refine lw_cV (rest := []) (cc0 := 0) sc_L_1234 C hcs (by decide) h1 rfl rfl (Nat.le_of_ble_eq_true rfl) rfl ?_
  refine lw_st (ps_aload_n dL_law_1237 rfl) C hcs rfl ?_
  refine lw_arg (kk := 1) dL_law_1238 dL_law_1239 dL_law_1241 dL_law_1242 dL_law_1243 rfl C hcs (by omega) hL ?_
  refine lw_arg (kk := 2) dL_law_1244 dL_law_1245 dL_law_1247 dL_law_1248 dL_law_1249 rfl C hcs (by omega) hL ?_
  refine lw_cV (rest := [.int x]) (cc0 := 133) sc_L_1250 C hcs (by decide) h2 rfl rfl (Nat.le_of_ble_eq_true rfl) rfl ?_
  refine lw_st (ps_ceq (pc := 1253) (t := 1642) dL_law_1253 (by decide)) C hcs (ceq_eq x) ?_
  exact lw_tail C hcs (by omega) (K σ2 (LInv_X ⟨sz, T, R, nl, V, PostW_B h3 w⟩))
set_option maxRecDepth 20000 in
theorem lw_c31 (C : LC p s m args meth c D cA ad A L xs) (hcs : cells ≤ 601024 ∧ slots ≤ 7293034) (hL : L ≤ 3072) {j : Nat} (hj : 6 * j + 6 ≤ L) {w5 w6 : Value} {σ : pm_H} (hI : LInv j σ) (K : ∀ σ', LInv (j + 1) σ' → pm_G p l e room_1 s m args below meth c cells slots D cA ad A 7 Q (23, LO (j + 1) w5 w6, [], σ')) : pm_G p l e room_1 s m args below meth c cells slots D cA ad A 7 Q (1258, LO j w5 w6, [], σ) := by
  obtain ⟨sz, T, R, n, a, e9, nl, V, h, w⟩ := hI
  obtain ⟨v, σ1, σ2, h1, h2, h3⟩ := b_calls 0 h w (xs (6 * j + 1)) (xs (6 * j + 2)) (xs (6 * j + 3)) (xs (6 * j + 4))
  obtain ⟨x, rfl⟩ := int_of ri_X11_calls h1
  refine lw_st (ps_aload_n dL_law_1258 rfl) C hcs rfl ?_
  refine lw_arg (kk := 1) dL_law_1259 dL_law_1260 dL_law_1262 dL_law_1263 dL_law_1264 rfl C hcs (by omega) hL ?_
  refine lw_arg (kk := 2) dL_law_1265 dL_law_1266 dL_law_1268 dL_law_1269 dL_law_1270 rfl C hcs (by omega) hL ?_
  refine lw_arg (kk := 3) dL_law_1271 dL_law_1272 dL_law_1274 dL_law_1275 dL_law_1276 rfl C hcs (by omega) hL ?_
  refine lw_arg (kk := 4) dL_law_1277 dL_law_1278 dL_law_1280 dL_law_1281 dL_law_1282 rfl C hcs (by omega) hL ?_
  refine lw_cV (rest := []) (cc0 := 0) sc_L_1283 C hcs (by decide) h1 rfl rfl (Nat.le_of_ble_eq_true rfl) rfl ?_
  refine lw_st (ps_aload_n dL_law_1286 rfl) C hcs rfl ?_
  refine lw_arg (kk := 1) dL_law_1287 dL_law_1288 dL_law_1290 dL_law_1291 dL_law_1292 rfl C hcs (by omega) hL ?_
  refine lw_arg (kk := 2) dL_law_1293 dL_law_1294 dL_law_1296 dL_law_1297 dL_law_1298 rfl C hcs (by omega) hL ?_
  refine lw_arg (kk := 3) dL_law_1299 dL_law_1300 dL_law_1302 dL_law_1303 dL_law_1304 rfl C hcs (by omega) hL ?_
  refine lw_arg (kk := 4) dL_law_1305 dL_law_1306 dL_law_1308 dL_law_1309 dL_law_1310 rfl C hcs (by omega) hL ?_
  refine lw_cV (rest := [.int x]) (cc0 := 133) sc_L_1311 C hcs (by decide) h2 rfl rfl (Nat.le_of_ble_eq_true rfl) rfl ?_
  refine lw_st (ps_ceq (pc := 1314) (t := 1642) dL_law_1314 (by decide)) C hcs (ceq_eq x) ?_
  exact lw_tail C hcs (by omega) (K σ2 (LInv_X ⟨sz, T, R, nl, V, h3⟩))
set_option maxRecDepth 20000 in
theorem lw_c32 (C : LC p s m args meth c D cA ad A L xs) (hcs : cells ≤ 601024 ∧ slots ≤ 7293034) (hL : L ≤ 3072) {j : Nat} (hj : 6 * j + 6 ≤ L) {w5 w6 : Value} {σ : pm_H} (hI : LInv j σ) (K : ∀ σ', LInv (j + 1) σ' → pm_G p l e room_1 s m args below meth c cells slots D cA ad A 7 Q (23, LO (j + 1) w5 w6, [], σ')) : pm_G p l e room_1 s m args below meth c cells slots D cA ad A 7 Q (1319, LO j w5 w6, [], σ) := by
  obtain ⟨sz, T, R, n, a, e9, nl, V, h, w⟩ := hI
  obtain ⟨v, σ1, σ2, h1, h2, h3⟩ := b_other 0 h (xs (6 * j + 1)) (xs (6 * j + 2))
  obtain ⟨x, rfl⟩ := int_of ri_X11_other h1
  refine lw_st (ps_aload_n dL_law_1319 rfl) C hcs rfl ?_
  refine lw_arg (kk := 1) dL_law_1320 dL_law_1321 dL_law_1323 dL_law_1324 dL_law_1325 rfl C hcs (by omega) hL ?_
  refine lw_arg (kk := 2) dL_law_1326 dL_law_1327 dL_law_1329 dL_law_1330 dL_law_1331 rfl C hcs (by omega) hL ?_
  refine lw_cV (rest := []) (cc0 := 0) sc_L_1332 C hcs (by decide) h1 rfl rfl (Nat.le_of_ble_eq_true rfl) rfl ?_
  refine lw_st (ps_aload_n dL_law_1335 rfl) C hcs rfl ?_
  refine lw_arg (kk := 1) dL_law_1336 dL_law_1337 dL_law_1339 dL_law_1340 dL_law_1341 rfl C hcs (by omega) hL ?_
  refine lw_arg (kk := 2) dL_law_1342 dL_law_1343 dL_law_1345 dL_law_1346 dL_law_1347 rfl C hcs (by omega) hL ?_
  refine lw_cV (rest := [.int x]) (cc0 := 133) sc_L_1348 C hcs (by decide) h2 rfl rfl (Nat.le_of_ble_eq_true rfl) rfl ?_
  refine lw_st (ps_ceq (pc := 1351) (t := 1642) dL_law_1351 (by decide)) C hcs (ceq_eq x) ?_
  exact lw_tail C hcs (by omega) (K σ2 (LInv_X ⟨sz, T, R, nl, V, PostW_B h3 w⟩))
set_option maxRecDepth 20000 in
theorem lw_c33 (C : LC p s m args meth c D cA ad A L xs) (hcs : cells ≤ 601024 ∧ slots ≤ 7293034) (hL : L ≤ 3072) {j : Nat} (hj : 6 * j + 6 ≤ L) {w5 w6 : Value} {σ : pm_H} (hI : LInv j σ) (K : ∀ σ', LInv (j + 1) σ' → pm_G p l e room_1 s m args below meth c cells slots D cA ad A 7 Q (23, LO (j + 1) w5 w6, [], σ')) : pm_G p l e room_1 s m args below meth c cells slots D cA ad A 7 Q (1356, LO j w5 w6, [], σ) := by
  obtain ⟨sz, T, R, n, a, e9, nl, V, h, w⟩ := hI
  obtain ⟨v, σ1, σ2, h1, h2, h3⟩ := b_ready 0 (by omega) h w (xs (6 * j + 1)) (xs (6 * j + 2))
  obtain ⟨x, rfl⟩ := int_of ri_X11_ready h1
  refine lw_st (ps_aload_n dL_law_1356 rfl) C hcs rfl ?_
  refine lw_arg (kk := 1) dL_law_1357 dL_law_1358 dL_law_1360 dL_law_1361 dL_law_1362 rfl C hcs (by omega) hL ?_
  refine lw_arg (kk := 2) dL_law_1363 dL_law_1364 dL_law_1366 dL_law_1367 dL_law_1368 rfl C hcs (by omega) hL ?_
  refine lw_cV (rest := []) (cc0 := 0) sc_L_1369 C hcs (by decide) h1 rfl rfl (Nat.le_of_ble_eq_true rfl) rfl ?_
  refine lw_st (ps_aload_n dL_law_1372 rfl) C hcs rfl ?_
  refine lw_arg (kk := 1) dL_law_1373 dL_law_1374 dL_law_1376 dL_law_1377 dL_law_1378 rfl C hcs (by omega) hL ?_
  refine lw_arg (kk := 2) dL_law_1379 dL_law_1380 dL_law_1382 dL_law_1383 dL_law_1384 rfl C hcs (by omega) hL ?_
  refine lw_cV (rest := [.int x]) (cc0 := 133) sc_L_1385 C hcs (by decide) h2 rfl rfl (Nat.le_of_ble_eq_true rfl) rfl ?_
  refine lw_st (ps_ceq (pc := 1388) (t := 1642) dL_law_1388 (by decide)) C hcs (ceq_eq x) ?_
  exact lw_tail C hcs (by omega) (K σ2 (LInv_X ⟨sz, T, R, nl, V, h3⟩))
set_option maxRecDepth 20000 in
theorem lw_c34 (C : LC p s m args meth c D cA ad A L xs) (hcs : cells ≤ 601024 ∧ slots ≤ 7293034) (hL : L ≤ 3072) {j : Nat} (hj : 6 * j + 6 ≤ L) {w5 w6 : Value} {σ : pm_H} (hI : LInv j σ) (K : ∀ σ', LInv (j + 1) σ' → pm_G p l e room_1 s m args below meth c cells slots D cA ad A 7 Q (23, LO (j + 1) w5 w6, [], σ')) : pm_G p l e room_1 s m args below meth c cells slots D cA ad A 7 Q (1393, LO j w5 w6, [], σ) := by
  obtain ⟨sz, T, R, n, a, e9, nl, V, h, w⟩ := hI
  obtain ⟨v, σ1, σ2, h1, h2, h3⟩ := b_yields 0 h (xs (6 * j + 1)) (xs (6 * j + 2))
  obtain ⟨x, rfl⟩ := int_of ri_X11_yields h1
  refine lw_st (ps_aload_n dL_law_1393 rfl) C hcs rfl ?_
  refine lw_arg (kk := 1) dL_law_1394 dL_law_1395 dL_law_1397 dL_law_1398 dL_law_1399 rfl C hcs (by omega) hL ?_
  refine lw_arg (kk := 2) dL_law_1400 dL_law_1401 dL_law_1403 dL_law_1404 dL_law_1405 rfl C hcs (by omega) hL ?_
  refine lw_cV (rest := []) (cc0 := 0) sc_L_1406 C hcs (by decide) h1 rfl rfl (Nat.le_of_ble_eq_true rfl) rfl ?_
  refine lw_st (ps_aload_n dL_law_1409 rfl) C hcs rfl ?_
  refine lw_arg (kk := 1) dL_law_1410 dL_law_1411 dL_law_1413 dL_law_1414 dL_law_1415 rfl C hcs (by omega) hL ?_
  refine lw_arg (kk := 2) dL_law_1416 dL_law_1417 dL_law_1419 dL_law_1420 dL_law_1421 rfl C hcs (by omega) hL ?_
  refine lw_cV (rest := [.int x]) (cc0 := 133) sc_L_1422 C hcs (by decide) h2 rfl rfl (Nat.le_of_ble_eq_true rfl) rfl ?_
  refine lw_st (ps_ceq (pc := 1425) (t := 1642) dL_law_1425 (by decide)) C hcs (ceq_eq x) ?_
  exact lw_tail C hcs (by omega) (K σ2 (LInv_X ⟨sz, T, R, nl, V, PostW_B h3 w⟩))
set_option maxRecDepth 20000 in
theorem lw_c35 (C : LC p s m args meth c D cA ad A L xs) (hcs : cells ≤ 601024 ∧ slots ≤ 7293034) (hL : L ≤ 3072) {j : Nat} (hj : 6 * j + 6 ≤ L) {w5 w6 : Value} {σ : pm_H} (hI : LInv j σ) (K : ∀ σ', LInv (j + 1) σ' → pm_G p l e room_1 s m args below meth c cells slots D cA ad A 7 Q (23, LO (j + 1) w5 w6, [], σ')) : pm_G p l e room_1 s m args below meth c cells slots D cA ad A 7 Q (1430, LO j w5 w6, [], σ) := by
  obtain ⟨sz, T, R, n, a, e9, nl, V, h, w⟩ := hI
  obtain ⟨v, σ1, σ2, h1, h2, h3⟩ := b_goods 0 h (xs (6 * j + 1)) (xs (6 * j + 2))
  obtain ⟨x, rfl⟩ := int_of ri_X11_goods h1
  refine lw_st (ps_aload_n dL_law_1430 rfl) C hcs rfl ?_
  refine lw_arg (kk := 1) dL_law_1431 dL_law_1432 dL_law_1434 dL_law_1435 dL_law_1436 rfl C hcs (by omega) hL ?_
  refine lw_arg (kk := 2) dL_law_1437 dL_law_1438 dL_law_1440 dL_law_1441 dL_law_1442 rfl C hcs (by omega) hL ?_
  refine lw_cV (rest := []) (cc0 := 0) sc_L_1443 C hcs (by decide) h1 rfl rfl (Nat.le_of_ble_eq_true rfl) rfl ?_
  refine lw_st (ps_aload_n dL_law_1446 rfl) C hcs rfl ?_
  refine lw_arg (kk := 1) dL_law_1447 dL_law_1448 dL_law_1450 dL_law_1451 dL_law_1452 rfl C hcs (by omega) hL ?_
  refine lw_arg (kk := 2) dL_law_1453 dL_law_1454 dL_law_1456 dL_law_1457 dL_law_1458 rfl C hcs (by omega) hL ?_
  refine lw_cV (rest := [.int x]) (cc0 := 133) sc_L_1459 C hcs (by decide) h2 rfl rfl (Nat.le_of_ble_eq_true rfl) rfl ?_
  refine lw_st (ps_ceq (pc := 1462) (t := 1642) dL_law_1462 (by decide)) C hcs (ceq_eq x) ?_
  exact lw_tail C hcs (by omega) (K σ2 (LInv_X ⟨sz, T, R, nl, V, PostW_B h3 w⟩))
set_option maxRecDepth 20000 in
theorem lw_c36 (C : LC p s m args meth c D cA ad A L xs) (hcs : cells ≤ 601024 ∧ slots ≤ 7293034) (hL : L ≤ 3072) {j : Nat} (hj : 6 * j + 6 ≤ L) {w5 w6 : Value} {σ : pm_H} (hI : LInv j σ) (K : ∀ σ', LInv (j + 1) σ' → pm_G p l e room_1 s m args below meth c cells slots D cA ad A 7 Q (23, LO (j + 1) w5 w6, [], σ')) : pm_G p l e room_1 s m args below meth c cells slots D cA ad A 7 Q (1467, LO j w5 w6, [], σ) := by
  obtain ⟨sz, T, R, n, a, e9, nl, V, h, w⟩ := hI
  obtain ⟨v, σ1, σ2, h1, h2, h3⟩ := b_hopes 0 (by omega) h w 
  obtain ⟨x, rfl⟩ := int_of ri_X11_hopes h1
  refine lw_st (ps_aload_n dL_law_1467 rfl) C hcs rfl ?_
  refine lw_cV (rest := []) (cc0 := 0) sc_L_1468 C hcs (by decide) h1 rfl rfl (Nat.le_of_ble_eq_true rfl) rfl ?_
  refine lw_st (ps_aload_n dL_law_1471 rfl) C hcs rfl ?_
  refine lw_cV (rest := [.int x]) (cc0 := 133) sc_L_1472 C hcs (by decide) h2 rfl rfl (Nat.le_of_ble_eq_true rfl) rfl ?_
  refine lw_st (ps_ceq (pc := 1475) (t := 1642) dL_law_1475 (by decide)) C hcs (ceq_eq x) ?_
  exact lw_tail C hcs (by omega) (K σ2 (LInv_X ⟨sz, T, R, nl, V, h3⟩))
set_option maxRecDepth 20000 in
theorem lw_c37 (C : LC p s m args meth c D cA ad A L xs) (hcs : cells ≤ 601024 ∧ slots ≤ 7293034) (hL : L ≤ 3072) {j : Nat} (hj : 6 * j + 6 ≤ L) {w5 w6 : Value} {σ : pm_H} (hI : LInv j σ) (K : ∀ σ', LInv (j + 1) σ' → pm_G p l e room_1 s m args below meth c cells slots D cA ad A 7 Q (23, LO (j + 1) w5 w6, [], σ')) : pm_G p l e room_1 s m args below meth c cells slots D cA ad A 7 Q (1480, LO j w5 w6, [], σ) := by
  obtain ⟨sz, T, R, n, a, e9, nl, V, h, w⟩ := hI
  obtain ⟨v, σ1, σ2, h1, h2, h3⟩ := b_kilos 0 h (xs (6 * j + 1)) (xs (6 * j + 2))
  obtain ⟨x, rfl⟩ := int_of ri_X11_kilos h1
  refine lw_st (ps_aload_n dL_law_1480 rfl) C hcs rfl ?_
  refine lw_arg (kk := 1) dL_law_1481 dL_law_1482 dL_law_1484 dL_law_1485 dL_law_1486 rfl C hcs (by omega) hL ?_
  refine lw_arg (kk := 2) dL_law_1487 dL_law_1488 dL_law_1490 dL_law_1491 dL_law_1492 rfl C hcs (by omega) hL ?_
  refine lw_cV (rest := []) (cc0 := 0) sc_L_1493 C hcs (by decide) h1 rfl rfl (Nat.le_of_ble_eq_true rfl) rfl ?_
  refine lw_st (ps_aload_n dL_law_1496 rfl) C hcs rfl ?_
  refine lw_arg (kk := 1) dL_law_1497 dL_law_1498 dL_law_1500 dL_law_1501 dL_law_1502 rfl C hcs (by omega) hL ?_
  refine lw_arg (kk := 2) dL_law_1503 dL_law_1504 dL_law_1506 dL_law_1507 dL_law_1508 rfl C hcs (by omega) hL ?_
  refine lw_cV (rest := [.int x]) (cc0 := 133) sc_L_1509 C hcs (by decide) h2 rfl rfl (Nat.le_of_ble_eq_true rfl) rfl ?_
  refine lw_st (ps_ceq (pc := 1512) (t := 1642) dL_law_1512 (by decide)) C hcs (ceq_eq x) ?_
  exact lw_tail C hcs (by omega) (K σ2 (LInv_X ⟨sz, T, R, nl, V, PostW_B h3 w⟩))
set_option maxRecDepth 20000 in
theorem lw_c38 (C : LC p s m args meth c D cA ad A L xs) (hcs : cells ≤ 601024 ∧ slots ≤ 7293034) (hL : L ≤ 3072) {j : Nat} (hj : 6 * j + 6 ≤ L) {w5 w6 : Value} {σ : pm_H} (hI : LInv j σ) (K : ∀ σ', LInv (j + 1) σ' → pm_G p l e room_1 s m args below meth c cells slots D cA ad A 7 Q (23, LO (j + 1) w5 w6, [], σ')) : pm_G p l e room_1 s m args below meth c cells slots D cA ad A 7 Q (1517, LO j w5 w6, [], σ) := by
  obtain ⟨sz, T, R, n, a, e9, nl, V, h, w⟩ := hI
  obtain ⟨v, σ1, σ2, h1, h2, h3⟩ := b_heaviest 0 h (xs (6 * j + 1)) (xs (6 * j + 2))
  obtain ⟨x, rfl⟩ := int_of ri_X11_heaviest h1
  refine lw_st (ps_aload_n dL_law_1517 rfl) C hcs rfl ?_
  refine lw_arg (kk := 1) dL_law_1518 dL_law_1519 dL_law_1521 dL_law_1522 dL_law_1523 rfl C hcs (by omega) hL ?_
  refine lw_arg (kk := 2) dL_law_1524 dL_law_1525 dL_law_1527 dL_law_1528 dL_law_1529 rfl C hcs (by omega) hL ?_
  refine lw_cV (rest := []) (cc0 := 0) sc_L_1530 C hcs (by decide) h1 rfl rfl (Nat.le_of_ble_eq_true rfl) rfl ?_
  refine lw_st (ps_aload_n dL_law_1533 rfl) C hcs rfl ?_
  refine lw_arg (kk := 1) dL_law_1534 dL_law_1535 dL_law_1537 dL_law_1538 dL_law_1539 rfl C hcs (by omega) hL ?_
  refine lw_arg (kk := 2) dL_law_1540 dL_law_1541 dL_law_1543 dL_law_1544 dL_law_1545 rfl C hcs (by omega) hL ?_
  refine lw_cV (rest := [.int x]) (cc0 := 133) sc_L_1546 C hcs (by decide) h2 rfl rfl (Nat.le_of_ble_eq_true rfl) rfl ?_
  refine lw_st (ps_ceq (pc := 1549) (t := 1642) dL_law_1549 (by decide)) C hcs (ceq_eq x) ?_
  exact lw_tail C hcs (by omega) (K σ2 (LInv_X ⟨sz, T, R, nl, V, PostW_B h3 w⟩))
set_option maxRecDepth 20000 in
theorem lw_c39 (C : LC p s m args meth c D cA ad A L xs) (hcs : cells ≤ 601024 ∧ slots ≤ 7293034) (hL : L ≤ 3072) {j : Nat} (hj : 6 * j + 6 ≤ L) {w5 w6 : Value} {σ : pm_H} (hI : LInv j σ) (K : ∀ σ', LInv (j + 1) σ' → pm_G p l e room_1 s m args below meth c cells slots D cA ad A 7 Q (23, LO (j + 1) w5 w6, [], σ')) : pm_G p l e room_1 s m args below meth c cells slots D cA ad A 7 Q (1554, LO j w5 w6, [], σ) := by
  obtain ⟨sz, T, R, n, a, e9, nl, V, h, w⟩ := hI
  obtain ⟨v, σ1, σ2, h1, h2, h3⟩ := b_idle 0 (by omega) h (xs (6 * j + 1)) (xs (6 * j + 2))
  obtain ⟨x, rfl⟩ := int_of ri_X11_idle h1
  refine lw_st (ps_aload_n dL_law_1554 rfl) C hcs rfl ?_
  refine lw_arg (kk := 1) dL_law_1555 dL_law_1556 dL_law_1558 dL_law_1559 dL_law_1560 rfl C hcs (by omega) hL ?_
  refine lw_arg (kk := 2) dL_law_1561 dL_law_1562 dL_law_1564 dL_law_1565 dL_law_1566 rfl C hcs (by omega) hL ?_
  refine lw_cV (rest := []) (cc0 := 0) sc_L_1567 C hcs (by decide) h1 rfl rfl (Nat.le_of_ble_eq_true rfl) rfl ?_
  refine lw_st (ps_aload_n dL_law_1570 rfl) C hcs rfl ?_
  refine lw_arg (kk := 1) dL_law_1571 dL_law_1572 dL_law_1574 dL_law_1575 dL_law_1576 rfl C hcs (by omega) hL ?_
  refine lw_arg (kk := 2) dL_law_1577 dL_law_1578 dL_law_1580 dL_law_1581 dL_law_1582 rfl C hcs (by omega) hL ?_
  refine lw_cV (rest := [.int x]) (cc0 := 133) sc_L_1583 C hcs (by decide) h2 rfl rfl (Nat.le_of_ble_eq_true rfl) rfl ?_
  refine lw_st (ps_ceq (pc := 1586) (t := 1642) dL_law_1586 (by decide)) C hcs (ceq_eq x) ?_
  exact lw_tail C hcs (by omega) (K σ2 (LInv_X ⟨sz, T, R, nl, V, PostW_B h3 w⟩))
set_option maxRecDepth 20000 in
theorem lw_c40 (C : LC p s m args meth c D cA ad A L xs) (hcs : cells ≤ 601024 ∧ slots ≤ 7293034) (hL : L ≤ 3072) {j : Nat} (hj : 6 * j + 6 ≤ L) {w5 w6 : Value} {σ : pm_H} (hI : LInv j σ) (K : ∀ σ', LInv (j + 1) σ' → pm_G p l e room_1 s m args below meth c cells slots D cA ad A 7 Q (23, LO (j + 1) w5 w6, [], σ')) : pm_G p l e room_1 s m args below meth c cells slots D cA ad A 7 Q (1591, LO j w5 w6, [], σ) := by
  obtain ⟨sz, T, R, n, a, e9, nl, V, h, w⟩ := hI
  obtain ⟨v, σ1, σ2, h1, h2, h3⟩ := b_image 0 h 
  obtain ⟨x, rfl⟩ := int_of ri_X11_image h1
  refine lw_st (ps_aload_n dL_law_1591 rfl) C hcs rfl ?_
  refine lw_cV (rest := []) (cc0 := 0) sc_L_1592 C hcs (by decide) h1 rfl rfl (Nat.le_of_ble_eq_true rfl) rfl ?_
  refine lw_st (ps_aload_n dL_law_1595 rfl) C hcs rfl ?_
  refine lw_cV (rest := [.int x]) (cc0 := 133) sc_L_1596 C hcs (by decide) h2 rfl rfl (Nat.le_of_ble_eq_true rfl) rfl ?_
  refine lw_st (ps_ceq (pc := 1599) (t := 1642) dL_law_1599 (by decide)) C hcs (ceq_eq x) ?_
  exact lw_tail C hcs (by omega) (K σ2 (LInv_X ⟨sz, T, R, nl, V, PostW_B h3 w⟩))
set_option maxRecDepth 20000 in
theorem lw_c41 (C : LC p s m args meth c D cA ad A L xs) (hcs : cells ≤ 601024 ∧ slots ≤ 7293034) (hL : L ≤ 3072) {j : Nat} (hj : 6 * j + 6 ≤ L) {w5 w6 : Value} {σ : pm_H} (hI : LInv j σ) (K : ∀ σ', LInv (j + 1) σ' → pm_G p l e room_1 s m args below meth c cells slots D cA ad A 7 Q (23, LO (j + 1) w5 w6, [], σ')) : pm_G p l e room_1 s m args below meth c cells slots D cA ad A 7 Q (1604, LO j w5 w6, [], σ) := by
  obtain ⟨sz, T, R, n, a, e9, nl, V, h, w⟩ := hI
  obtain ⟨v, σ1, σ2, h1, h2, h3⟩ := b_back 0 h 
  obtain ⟨x, rfl⟩ := int_of ri_X11_back h1
  refine lw_st (ps_aload_n dL_law_1604 rfl) C hcs rfl ?_
  refine lw_cV (rest := []) (cc0 := 0) sc_L_1605 C hcs (by decide) h1 rfl rfl (Nat.le_of_ble_eq_true rfl) rfl ?_
  refine lw_st (ps_aload_n dL_law_1608 rfl) C hcs rfl ?_
  refine lw_cV (rest := [.int x]) (cc0 := 133) sc_L_1609 C hcs (by decide) h2 rfl rfl (Nat.le_of_ble_eq_true rfl) rfl ?_
  refine lw_st (ps_ceq (pc := 1612) (t := 1642) dL_law_1612 (by decide)) C hcs (ceq_eq x) ?_
  exact lw_tail C hcs (by omega) (K σ2 (LInv_X ⟨sz, T, R, nl, V, PostW_B h3 w⟩))
set_option maxRecDepth 20000 in
theorem lw_c42 (C : LC p s m args meth c D cA ad A L xs) (hcs : cells ≤ 601024 ∧ slots ≤ 7293034) (hL : L ≤ 3072) {j : Nat} (hj : 6 * j + 6 ≤ L) {w5 w6 : Value} {σ : pm_H} (hI : LInv j σ) (K : ∀ σ', LInv (j + 1) σ' → pm_G p l e room_1 s m args below meth c cells slots D cA ad A 7 Q (23, LO (j + 1) w5 w6, [], σ')) : pm_G p l e room_1 s m args below meth c cells slots D cA ad A 7 Q (1617, LO j w5 w6, [], σ) := by
  obtain ⟨sz, T, R, n, a, e9, nl, V, h, w⟩ := hI
  obtain ⟨v, σ1, σ2, h1, h2, h3⟩ := b_count 0 h w (xs (6 * j + 1))
  obtain ⟨x, rfl⟩ := int_of ri_X11_count h1
  refine lw_st (ps_aload_n dL_law_1617 rfl) C hcs rfl ?_
  refine lw_arg (kk := 1) dL_law_1618 dL_law_1619 dL_law_1621 dL_law_1622 dL_law_1623 rfl C hcs (by omega) hL ?_
  refine lw_cV (rest := []) (cc0 := 0) sc_L_1624 C hcs (by decide) h1 rfl rfl (Nat.le_of_ble_eq_true rfl) rfl ?_
  refine lw_st (ps_aload_n dL_law_1627 rfl) C hcs rfl ?_
  refine lw_arg (kk := 1) dL_law_1628 dL_law_1629 dL_law_1631 dL_law_1632 dL_law_1633 rfl C hcs (by omega) hL ?_
  refine lw_cV (rest := [.int x]) (cc0 := 133) sc_L_1634 C hcs (by decide) h2 rfl rfl (Nat.le_of_ble_eq_true rfl) rfl ?_
  refine lw_st (ps_ceq (pc := 1637) (t := 1642) dL_law_1637 (by decide)) C hcs (ceq_eq x) ?_
  exact lw_tail C hcs (by omega) (K σ2 (LInv_X ⟨sz, T, R, nl, V, h3⟩))
end LWC
