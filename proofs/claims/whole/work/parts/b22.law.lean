/-! THE LAW'S ROWS -/
def scr (xs : Nat → Int32) (L : Nat) (h : XH) : Prop := xK h 0 = 1 ∧ xN h 0 = L ∧ xI h 0 = xs
def bz (x : Int32) : Int32 := if x = 0 then 0 else 1
section LWR
variable {mi pc x y nx : Nat} {imm : Int} {sw : List (Int × Nat)} {ls st : List Value} {h : XH} {Q : Value → XH → Prop} {xs : Nat → Int32} {L i : Nat}
theorem s_ia {v : Int32} {j : Nat} (ho : x_ops mi pc = some (31, imm, x, y, nx, sw)) (sc : scr xs L h) (hj : j < L) (hL : L ≤ 3072) (ev : v = nI j) (k : Ev mi nx ls (.int (xs j) :: st) h Q) : Ev mi pc ls (.int v :: .ref 0 :: st) h Q := by
  subst ev
  refine e_ia (n := L) ho sc.1 sc.2.1 (inb hj (by omega)) ?_
  rw [tn_nI (by omega), sc.2.2]
  exact k
theorem s_bz {a : Int32} {p0 p1 p2 pg x2 y2 y3 n3 x4 y4 : Nat} {i1 i3 : Int} {w1 w2 w3 w4 : List (Int × Nat)} (h1 : x_ops mi pc = some (22, i1, p0, 0, p1, w1)) (h2 : x_ops mi p1 = some (0, 1, x2, y2, pg, w2)) (h3 : x_ops mi pg = some (20, i3, p2, y3, n3, w3)) (h4 : x_ops mi p0 = some (0, 0, x4, y4, p2, w4)) (k : Ev mi p2 ls (.int (bz a) :: st) h Q) : Ev mi pc ls (.int a :: st) h Q := by
  refine e_i0_0 h1 (fun z => ?_) (fun z => ?_)
  · rw [show bz a = 0 from if_pos z] at k
    exact e_c 0 h4 rfl k
  · rw [show bz a = 1 from if_neg z] at k
    exact e_c 1 h2 rfl (e_go h3 k)
theorem Lw_0 (hs : Sh h) (sc : scr xs L h) (hi : i + 6 ≤ L) (hL : L ≤ 3072) (k : ClI 10 [.ref 4, .int (xs (i + 1)), .int (xs (i + 2)), .int (xs (i + 3)), .int (xs (i + 4)), .int (xs (i + 5))] h (fun v h1 => Sh h1 ∧ scr xs L h1 ∧ ClI 175 [.ref 69, .int (xs (i + 1)), .int (xs (i + 2)), .int (xs (i + 3)), .int (xs (i + 4)), .int (xs (i + 5))] h1 (fun w h2 => v = w ∧ Ev 267 1279 [.ref 0, .ref 4, .ref 69, .int (nI i)] [] h2 Q))) : Ev 267 196 [.ref 0, .ref 4, .ref 69, .int (nI i)] [] h Q := by
  refine e_al o_267_196 rfl ?_
  refine e_al o_267_197 rfl ?_
  refine e_il o_267_198 rfl ?_
  refine e_c 1 o_267_199 rfl ?_
  refine e_bin o_267_200 rfl ?_
  refine s_ia (j := i + 1) o_267_201 sc (by omega) hL (nI_1 i) ?_
  refine e_al o_267_202 rfl ?_
  refine e_il o_267_203 rfl ?_
  refine e_c 2 o_267_204 rfl ?_
  refine e_bin o_267_205 rfl ?_
  refine s_ia (j := i + 2) o_267_206 sc (by omega) hL (nI_add i 2) ?_
  refine e_al o_267_207 rfl ?_
  refine e_il o_267_208 rfl ?_
  refine e_c 3 o_267_209 rfl ?_
  refine e_bin o_267_210 rfl ?_
  refine s_ia (j := i + 3) o_267_211 sc (by omega) hL (nI_add i 3) ?_
  refine e_al o_267_212 rfl ?_
  refine e_il o_267_213 rfl ?_
  refine e_c 4 o_267_214 rfl ?_
  refine e_bin o_267_215 rfl ?_
  refine s_ia (j := i + 4) o_267_216 sc (by omega) hL (nI_add i 4) ?_
  refine e_al o_267_217 rfl ?_
  refine e_il o_267_218 rfl ?_
  refine e_c 5 o_267_219 rfl ?_
  refine e_bin o_267_220 rfl ?_
  refine s_ia (j := i + 5) o_267_221 sc (by omega) hL (nI_add i 5) ?_
  refine e_clI (as := [.ref 4, .int (xs (i + 1)), .int (xs (i + 2)), .int (xs (i + 3)), .int (xs (i + 4)), .int (xs (i + 5))]) (rest := []) o_267_222 rfl rfl (x_okd cl_267_10 ml_10 (Nat.le_of_ble_eq_true rfl) (Nat.le_of_ble_eq_true rfl)) (x_rc0 (ci := 8) (sk_4 hs) mo_10) k ?_
  rintro v h1 ⟨sh1, sc1, k⟩
  refine e_al o_267_225 rfl ?_
  refine e_al o_267_226 rfl ?_
  refine e_il o_267_227 rfl ?_
  refine e_c 1 o_267_228 rfl ?_
  refine e_bin o_267_229 rfl ?_
  refine s_ia (j := i + 1) o_267_230 sc1 (by omega) hL (nI_1 i) ?_
  refine e_al o_267_231 rfl ?_
  refine e_il o_267_232 rfl ?_
  refine e_c 2 o_267_233 rfl ?_
  refine e_bin o_267_234 rfl ?_
  refine s_ia (j := i + 2) o_267_235 sc1 (by omega) hL (nI_add i 2) ?_
  refine e_al o_267_236 rfl ?_
  refine e_il o_267_237 rfl ?_
  refine e_c 3 o_267_238 rfl ?_
  refine e_bin o_267_239 rfl ?_
  refine s_ia (j := i + 3) o_267_240 sc1 (by omega) hL (nI_add i 3) ?_
  refine e_al o_267_241 rfl ?_
  refine e_il o_267_242 rfl ?_
  refine e_c 4 o_267_243 rfl ?_
  refine e_bin o_267_244 rfl ?_
  refine s_ia (j := i + 4) o_267_245 sc1 (by omega) hL (nI_add i 4) ?_
  refine e_al o_267_246 rfl ?_
  refine e_il o_267_247 rfl ?_
  refine e_c 5 o_267_248 rfl ?_
  refine e_bin o_267_249 rfl ?_
  refine s_ia (j := i + 5) o_267_250 sc1 (by omega) hL (nI_add i 5) ?_
  refine e_clI (as := [.ref 69, .int (xs (i + 1)), .int (xs (i + 2)), .int (xs (i + 3)), .int (xs (i + 4)), .int (xs (i + 5))]) (rest := [.int v]) o_267_251 rfl rfl (x_okd cl_267_175 ml_175 (Nat.le_of_ble_eq_true rfl) (Nat.le_of_ble_eq_true rfl)) (x_rc0 (ci := 9) (sk_69 sh1) mo_175) k ?_
  rintro w h2 ⟨hv, k⟩
  exact e_if (P := v = w) o_267_254 rfl (fun _ => k) (fun z => absurd hv z)
theorem Lw_1 (hs : Sh h) (sc : scr xs L h) (hi : i + 6 ≤ L) (hL : L ≤ 3072) (k : ClI 12 [.ref 4, .int (xs (i + 1))] h (fun v h1 => Sh h1 ∧ scr xs L h1 ∧ ClI 177 [.ref 69, .int (xs (i + 1))] h1 (fun w h2 => v = w ∧ Ev 267 1279 [.ref 0, .ref 4, .ref 69, .int (nI i)] [] h2 Q))) : Ev 267 259 [.ref 0, .ref 4, .ref 69, .int (nI i)] [] h Q := by
  refine e_al o_267_259 rfl ?_
  refine e_al o_267_260 rfl ?_
  refine e_il o_267_261 rfl ?_
  refine e_c 1 o_267_262 rfl ?_
  refine e_bin o_267_263 rfl ?_
  refine s_ia (j := i + 1) o_267_264 sc (by omega) hL (nI_1 i) ?_
  refine e_clI (as := [.ref 4, .int (xs (i + 1))]) (rest := []) o_267_265 rfl rfl (x_okd cl_267_12 ml_12 (Nat.le_of_ble_eq_true rfl) (Nat.le_of_ble_eq_true rfl)) (x_rc0 (ci := 8) (sk_4 hs) mo_12) k ?_
  rintro v h1 ⟨sh1, sc1, k⟩
  refine e_al o_267_268 rfl ?_
  refine e_al o_267_269 rfl ?_
  refine e_il o_267_270 rfl ?_
  refine e_c 1 o_267_271 rfl ?_
  refine e_bin o_267_272 rfl ?_
  refine s_ia (j := i + 1) o_267_273 sc1 (by omega) hL (nI_1 i) ?_
  refine e_clI (as := [.ref 69, .int (xs (i + 1))]) (rest := [.int v]) o_267_274 rfl rfl (x_okd cl_267_177 ml_177 (Nat.le_of_ble_eq_true rfl) (Nat.le_of_ble_eq_true rfl)) (x_rc0 (ci := 9) (sk_69 sh1) mo_177) k ?_
  rintro w h2 ⟨hv, k⟩
  exact e_if (P := v = w) o_267_277 rfl (fun _ => k) (fun z => absurd hv z)
theorem Lw_2 (hs : Sh h) (sc : scr xs L h) (hi : i + 6 ≤ L) (hL : L ≤ 3072) (k : ClI 13 [.ref 4] h (fun v h1 => Sh h1 ∧ scr xs L h1 ∧ ClI 178 [.ref 69] h1 (fun w h2 => v = w ∧ Ev 267 1279 [.ref 0, .ref 4, .ref 69, .int (nI i)] [] h2 Q))) : Ev 267 282 [.ref 0, .ref 4, .ref 69, .int (nI i)] [] h Q := by
  refine e_al o_267_282 rfl ?_
  refine e_clI (as := [.ref 4]) (rest := []) o_267_283 rfl rfl (x_okd cl_267_13 ml_13 (Nat.le_of_ble_eq_true rfl) (Nat.le_of_ble_eq_true rfl)) (x_rc0 (ci := 8) (sk_4 hs) mo_13) k ?_
  rintro v h1 ⟨sh1, sc1, k⟩
  refine e_al o_267_286 rfl ?_
  refine e_clI (as := [.ref 69]) (rest := [.int v]) o_267_287 rfl rfl (x_okd cl_267_178 ml_178 (Nat.le_of_ble_eq_true rfl) (Nat.le_of_ble_eq_true rfl)) (x_rc0 (ci := 9) (sk_69 sh1) mo_178) k ?_
  rintro w h2 ⟨hv, k⟩
  exact e_if (P := v = w) o_267_290 rfl (fun _ => k) (fun z => absurd hv z)
theorem Lw_3 (hs : Sh h) (sc : scr xs L h) (hi : i + 6 ≤ L) (hL : L ≤ 3072) (k : ClI 68 [.ref 4] h (fun v h1 => Sh h1 ∧ scr xs L h1 ∧ ClI 204 [.ref 69] h1 (fun w h2 => v = w ∧ Ev 267 1279 [.ref 0, .ref 4, .ref 69, .int (nI i)] [] h2 Q))) : Ev 267 295 [.ref 0, .ref 4, .ref 69, .int (nI i)] [] h Q := by
  refine e_al o_267_295 rfl ?_
  refine e_clI (as := [.ref 4]) (rest := []) o_267_296 rfl rfl (x_okd cl_267_68 ml_68 (Nat.le_of_ble_eq_true rfl) (Nat.le_of_ble_eq_true rfl)) (x_rc0 (ci := 8) (sk_4 hs) mo_68) k ?_
  rintro v h1 ⟨sh1, sc1, k⟩
  refine e_al o_267_299 rfl ?_
  refine e_clI (as := [.ref 69]) (rest := [.int v]) o_267_300 rfl rfl (x_okd cl_267_204 ml_204 (Nat.le_of_ble_eq_true rfl) (Nat.le_of_ble_eq_true rfl)) (x_rc0 (ci := 9) (sk_69 sh1) mo_204) k ?_
  rintro w h2 ⟨hv, k⟩
  exact e_if (P := v = w) o_267_303 rfl (fun _ => k) (fun z => absurd hv z)
theorem Lw_4 (hs : Sh h) (sc : scr xs L h) (hi : i + 6 ≤ L) (hL : L ≤ 3072) (k : ClI 69 [.ref 4, .int (xs (i + 1))] h (fun v h1 => Sh h1 ∧ scr xs L h1 ∧ ClI 205 [.ref 69, .int (xs (i + 1))] h1 (fun w h2 => v = w ∧ Ev 267 1279 [.ref 0, .ref 4, .ref 69, .int (nI i)] [] h2 Q))) : Ev 267 308 [.ref 0, .ref 4, .ref 69, .int (nI i)] [] h Q := by
  refine e_al o_267_308 rfl ?_
  refine e_al o_267_309 rfl ?_
  refine e_il o_267_310 rfl ?_
  refine e_c 1 o_267_311 rfl ?_
  refine e_bin o_267_312 rfl ?_
  refine s_ia (j := i + 1) o_267_313 sc (by omega) hL (nI_1 i) ?_
  refine e_clI (as := [.ref 4, .int (xs (i + 1))]) (rest := []) o_267_314 rfl rfl (x_okd cl_267_69 ml_69 (Nat.le_of_ble_eq_true rfl) (Nat.le_of_ble_eq_true rfl)) (x_rc0 (ci := 8) (sk_4 hs) mo_69) k ?_
  rintro v h1 ⟨sh1, sc1, k⟩
  refine e_al o_267_317 rfl ?_
  refine e_al o_267_318 rfl ?_
  refine e_il o_267_319 rfl ?_
  refine e_c 1 o_267_320 rfl ?_
  refine e_bin o_267_321 rfl ?_
  refine s_ia (j := i + 1) o_267_322 sc1 (by omega) hL (nI_1 i) ?_
  refine e_clI (as := [.ref 69, .int (xs (i + 1))]) (rest := [.int v]) o_267_323 rfl rfl (x_okd cl_267_205 ml_205 (Nat.le_of_ble_eq_true rfl) (Nat.le_of_ble_eq_true rfl)) (x_rc0 (ci := 9) (sk_69 sh1) mo_205) k ?_
  rintro w h2 ⟨hv, k⟩
  exact e_if (P := v = w) o_267_326 rfl (fun _ => k) (fun z => absurd hv z)
theorem Lw_5 (hs : Sh h) (sc : scr xs L h) (hi : i + 6 ≤ L) (hL : L ≤ 3072) (k : ClI 71 [.ref 4, .int (xs (i + 1)), .int (xs (i + 2))] h (fun v h1 => Sh h1 ∧ scr xs L h1 ∧ ClI 208 [.ref 69, .int (xs (i + 1)), .int (xs (i + 2))] h1 (fun w h2 => v = w ∧ Ev 267 1279 [.ref 0, .ref 4, .ref 69, .int (nI i)] [] h2 Q))) : Ev 267 331 [.ref 0, .ref 4, .ref 69, .int (nI i)] [] h Q := by
  refine e_al o_267_331 rfl ?_
  refine e_al o_267_332 rfl ?_
  refine e_il o_267_333 rfl ?_
  refine e_c 1 o_267_334 rfl ?_
  refine e_bin o_267_335 rfl ?_
  refine s_ia (j := i + 1) o_267_336 sc (by omega) hL (nI_1 i) ?_
  refine e_al o_267_337 rfl ?_
  refine e_il o_267_338 rfl ?_
  refine e_c 2 o_267_339 rfl ?_
  refine e_bin o_267_340 rfl ?_
  refine s_ia (j := i + 2) o_267_341 sc (by omega) hL (nI_add i 2) ?_
  refine e_clI (as := [.ref 4, .int (xs (i + 1)), .int (xs (i + 2))]) (rest := []) o_267_342 rfl rfl (x_okd cl_267_71 ml_71 (Nat.le_of_ble_eq_true rfl) (Nat.le_of_ble_eq_true rfl)) (x_rc0 (ci := 8) (sk_4 hs) mo_71) k ?_
  rintro v h1 ⟨sh1, sc1, k⟩
  refine e_al o_267_345 rfl ?_
  refine e_al o_267_346 rfl ?_
  refine e_il o_267_347 rfl ?_
  refine e_c 1 o_267_348 rfl ?_
  refine e_bin o_267_349 rfl ?_
  refine s_ia (j := i + 1) o_267_350 sc1 (by omega) hL (nI_1 i) ?_
  refine e_al o_267_351 rfl ?_
  refine e_il o_267_352 rfl ?_
  refine e_c 2 o_267_353 rfl ?_
  refine e_bin o_267_354 rfl ?_
  refine s_ia (j := i + 2) o_267_355 sc1 (by omega) hL (nI_add i 2) ?_
  refine e_clI (as := [.ref 69, .int (xs (i + 1)), .int (xs (i + 2))]) (rest := [.int v]) o_267_356 rfl rfl (x_okd cl_267_208 ml_208 (Nat.le_of_ble_eq_true rfl) (Nat.le_of_ble_eq_true rfl)) (x_rc0 (ci := 9) (sk_69 sh1) mo_208) k ?_
  rintro w h2 ⟨hv, k⟩
  exact e_if (P := v = w) o_267_359 rfl (fun _ => k) (fun z => absurd hv z)
theorem Lw_6 (hs : Sh h) (sc : scr xs L h) (hi : i + 6 ≤ L) (hL : L ≤ 3072) (k : ClI 76 [.ref 4, .int (xs (i + 1))] h (fun v h1 => Sh h1 ∧ scr xs L h1 ∧ ClI 211 [.ref 69, .int (xs (i + 1))] h1 (fun w h2 => v = w ∧ Ev 267 1279 [.ref 0, .ref 4, .ref 69, .int (nI i)] [] h2 Q))) : Ev 267 364 [.ref 0, .ref 4, .ref 69, .int (nI i)] [] h Q := by
  refine e_al o_267_364 rfl ?_
  refine e_al o_267_365 rfl ?_
  refine e_il o_267_366 rfl ?_
  refine e_c 1 o_267_367 rfl ?_
  refine e_bin o_267_368 rfl ?_
  refine s_ia (j := i + 1) o_267_369 sc (by omega) hL (nI_1 i) ?_
  refine e_clI (as := [.ref 4, .int (xs (i + 1))]) (rest := []) o_267_370 rfl rfl (x_okd cl_267_76 ml_76 (Nat.le_of_ble_eq_true rfl) (Nat.le_of_ble_eq_true rfl)) (x_rc0 (ci := 8) (sk_4 hs) mo_76) k ?_
  rintro v h1 ⟨sh1, sc1, k⟩
  refine e_al o_267_373 rfl ?_
  refine e_al o_267_374 rfl ?_
  refine e_il o_267_375 rfl ?_
  refine e_c 1 o_267_376 rfl ?_
  refine e_bin o_267_377 rfl ?_
  refine s_ia (j := i + 1) o_267_378 sc1 (by omega) hL (nI_1 i) ?_
  refine e_clI (as := [.ref 69, .int (xs (i + 1))]) (rest := [.int v]) o_267_379 rfl rfl (x_okd cl_267_211 ml_211 (Nat.le_of_ble_eq_true rfl) (Nat.le_of_ble_eq_true rfl)) (x_rc0 (ci := 9) (sk_69 sh1) mo_211) k ?_
  rintro w h2 ⟨hv, k⟩
  exact e_if (P := v = w) o_267_382 rfl (fun _ => k) (fun z => absurd hv z)
theorem Lw_7 (hs : Sh h) (sc : scr xs L h) (hi : i + 6 ≤ L) (hL : L ≤ 3072) (k : ClI 77 [.ref 4, .int (xs (i + 1))] h (fun v h1 => Sh h1 ∧ scr xs L h1 ∧ ClI 212 [.ref 69, .int (xs (i + 1))] h1 (fun w h2 => v = w ∧ Ev 267 1279 [.ref 0, .ref 4, .ref 69, .int (nI i)] [] h2 Q))) : Ev 267 387 [.ref 0, .ref 4, .ref 69, .int (nI i)] [] h Q := by
  refine e_al o_267_387 rfl ?_
  refine e_al o_267_388 rfl ?_
  refine e_il o_267_389 rfl ?_
  refine e_c 1 o_267_390 rfl ?_
  refine e_bin o_267_391 rfl ?_
  refine s_ia (j := i + 1) o_267_392 sc (by omega) hL (nI_1 i) ?_
  refine e_clI (as := [.ref 4, .int (xs (i + 1))]) (rest := []) o_267_393 rfl rfl (x_okd cl_267_77 ml_77 (Nat.le_of_ble_eq_true rfl) (Nat.le_of_ble_eq_true rfl)) (x_rc0 (ci := 8) (sk_4 hs) mo_77) k ?_
  rintro v h1 ⟨sh1, sc1, k⟩
  refine e_al o_267_396 rfl ?_
  refine e_al o_267_397 rfl ?_
  refine e_il o_267_398 rfl ?_
  refine e_c 1 o_267_399 rfl ?_
  refine e_bin o_267_400 rfl ?_
  refine s_ia (j := i + 1) o_267_401 sc1 (by omega) hL (nI_1 i) ?_
  refine e_clI (as := [.ref 69, .int (xs (i + 1))]) (rest := [.int v]) o_267_402 rfl rfl (x_okd cl_267_212 ml_212 (Nat.le_of_ble_eq_true rfl) (Nat.le_of_ble_eq_true rfl)) (x_rc0 (ci := 9) (sk_69 sh1) mo_212) k ?_
  rintro w h2 ⟨hv, k⟩
  exact e_if (P := v = w) o_267_405 rfl (fun _ => k) (fun z => absurd hv z)
theorem Lw_8 (hs : Sh h) (sc : scr xs L h) (hi : i + 6 ≤ L) (hL : L ≤ 3072) (k : ClI 82 [.ref 4, .int (xs (i + 1)), .int (xs (i + 2))] h (fun v h1 => Sh h1 ∧ scr xs L h1 ∧ ClI 219 [.ref 69, .int (xs (i + 1)), .int (xs (i + 2))] h1 (fun w h2 => v = w ∧ Ev 267 1279 [.ref 0, .ref 4, .ref 69, .int (nI i)] [] h2 Q))) : Ev 267 410 [.ref 0, .ref 4, .ref 69, .int (nI i)] [] h Q := by
  refine e_al o_267_410 rfl ?_
  refine e_al o_267_411 rfl ?_
  refine e_il o_267_412 rfl ?_
  refine e_c 1 o_267_413 rfl ?_
  refine e_bin o_267_414 rfl ?_
  refine s_ia (j := i + 1) o_267_415 sc (by omega) hL (nI_1 i) ?_
  refine e_al o_267_416 rfl ?_
  refine e_il o_267_417 rfl ?_
  refine e_c 2 o_267_418 rfl ?_
  refine e_bin o_267_419 rfl ?_
  refine s_ia (j := i + 2) o_267_420 sc (by omega) hL (nI_add i 2) ?_
  refine e_clI (as := [.ref 4, .int (xs (i + 1)), .int (xs (i + 2))]) (rest := []) o_267_421 rfl rfl (x_okd cl_267_82 ml_82 (Nat.le_of_ble_eq_true rfl) (Nat.le_of_ble_eq_true rfl)) (x_rc0 (ci := 8) (sk_4 hs) mo_82) k ?_
  rintro v h1 ⟨sh1, sc1, k⟩
  refine e_al o_267_424 rfl ?_
  refine e_al o_267_425 rfl ?_
  refine e_il o_267_426 rfl ?_
  refine e_c 1 o_267_427 rfl ?_
  refine e_bin o_267_428 rfl ?_
  refine s_ia (j := i + 1) o_267_429 sc1 (by omega) hL (nI_1 i) ?_
  refine e_al o_267_430 rfl ?_
  refine e_il o_267_431 rfl ?_
  refine e_c 2 o_267_432 rfl ?_
  refine e_bin o_267_433 rfl ?_
  refine s_ia (j := i + 2) o_267_434 sc1 (by omega) hL (nI_add i 2) ?_
  refine e_clI (as := [.ref 69, .int (xs (i + 1)), .int (xs (i + 2))]) (rest := [.int v]) o_267_435 rfl rfl (x_okd cl_267_219 ml_219 (Nat.le_of_ble_eq_true rfl) (Nat.le_of_ble_eq_true rfl)) (x_rc0 (ci := 9) (sk_69 sh1) mo_219) k ?_
  rintro w h2 ⟨hv, k⟩
  exact e_if (P := v = w) o_267_438 rfl (fun _ => k) (fun z => absurd hv z)
theorem Lw_9 (hs : Sh h) (sc : scr xs L h) (hi : i + 6 ≤ L) (hL : L ≤ 3072) (k : ClI 83 [.ref 4, .int (xs (i + 1)), .int (bz (xs (i + 2)))] h (fun v h1 => Sh h1 ∧ scr xs L h1 ∧ ClI 220 [.ref 69, .int (xs (i + 1)), .int (bz (xs (i + 2)))] h1 (fun w h2 => v = w ∧ Ev 267 1279 [.ref 0, .ref 4, .ref 69, .int (nI i)] [] h2 Q))) : Ev 267 443 [.ref 0, .ref 4, .ref 69, .int (nI i)] [] h Q := by
  refine e_al o_267_443 rfl ?_
  refine e_al o_267_444 rfl ?_
  refine e_il o_267_445 rfl ?_
  refine e_c 1 o_267_446 rfl ?_
  refine e_bin o_267_447 rfl ?_
  refine s_ia (j := i + 1) o_267_448 sc (by omega) hL (nI_1 i) ?_
  refine e_al o_267_449 rfl ?_
  refine e_il o_267_450 rfl ?_
  refine e_c 2 o_267_451 rfl ?_
  refine e_bin o_267_452 rfl ?_
  refine s_ia (j := i + 2) o_267_453 sc (by omega) hL (nI_add i 2) ?_
  refine s_bz o_267_454 o_267_457 o_267_458 o_267_461 ?_
  refine e_clI (as := [.ref 4, .int (xs (i + 1)), .int (bz (xs (i + 2)))]) (rest := []) o_267_462 rfl rfl (x_okd cl_267_83 ml_83 (Nat.le_of_ble_eq_true rfl) (Nat.le_of_ble_eq_true rfl)) (x_rc0 (ci := 8) (sk_4 hs) mo_83) k ?_
  rintro v h1 ⟨sh1, sc1, k⟩
  refine e_al o_267_465 rfl ?_
  refine e_al o_267_466 rfl ?_
  refine e_il o_267_467 rfl ?_
  refine e_c 1 o_267_468 rfl ?_
  refine e_bin o_267_469 rfl ?_
  refine s_ia (j := i + 1) o_267_470 sc1 (by omega) hL (nI_1 i) ?_
  refine e_al o_267_471 rfl ?_
  refine e_il o_267_472 rfl ?_
  refine e_c 2 o_267_473 rfl ?_
  refine e_bin o_267_474 rfl ?_
  refine s_ia (j := i + 2) o_267_475 sc1 (by omega) hL (nI_add i 2) ?_
  refine s_bz o_267_476 o_267_479 o_267_480 o_267_483 ?_
  refine e_clI (as := [.ref 69, .int (xs (i + 1)), .int (bz (xs (i + 2)))]) (rest := [.int v]) o_267_484 rfl rfl (x_okd cl_267_220 ml_220 (Nat.le_of_ble_eq_true rfl) (Nat.le_of_ble_eq_true rfl)) (x_rc0 (ci := 9) (sk_69 sh1) mo_220) k ?_
  rintro w h2 ⟨hv, k⟩
  exact e_if (P := v = w) o_267_487 rfl (fun _ => k) (fun z => absurd hv z)
theorem Lw_10 (hs : Sh h) (sc : scr xs L h) (hi : i + 6 ≤ L) (hL : L ≤ 3072) (k : ClI 84 [.ref 4] h (fun v h1 => Sh h1 ∧ scr xs L h1 ∧ ClI 221 [.ref 69] h1 (fun w h2 => v = w ∧ Ev 267 1279 [.ref 0, .ref 4, .ref 69, .int (nI i)] [] h2 Q))) : Ev 267 492 [.ref 0, .ref 4, .ref 69, .int (nI i)] [] h Q := by
  refine e_al o_267_492 rfl ?_
  refine e_clI (as := [.ref 4]) (rest := []) o_267_493 rfl rfl (x_okd cl_267_84 ml_84 (Nat.le_of_ble_eq_true rfl) (Nat.le_of_ble_eq_true rfl)) (x_rc0 (ci := 8) (sk_4 hs) mo_84) k ?_
  rintro v h1 ⟨sh1, sc1, k⟩
  refine e_al o_267_496 rfl ?_
  refine e_clI (as := [.ref 69]) (rest := [.int v]) o_267_497 rfl rfl (x_okd cl_267_221 ml_221 (Nat.le_of_ble_eq_true rfl) (Nat.le_of_ble_eq_true rfl)) (x_rc0 (ci := 9) (sk_69 sh1) mo_221) k ?_
  rintro w h2 ⟨hv, k⟩
  exact e_if (P := v = w) o_267_500 rfl (fun _ => k) (fun z => absurd hv z)
theorem Lw_11 (hs : Sh h) (sc : scr xs L h) (hi : i + 6 ≤ L) (hL : L ≤ 3072) (k : ClI 86 [.ref 4, .int (xs (i + 1))] h (fun v h1 => Sh h1 ∧ scr xs L h1 ∧ ClI 222 [.ref 69, .int (xs (i + 1))] h1 (fun w h2 => v = w ∧ Ev 267 1279 [.ref 0, .ref 4, .ref 69, .int (nI i)] [] h2 Q))) : Ev 267 505 [.ref 0, .ref 4, .ref 69, .int (nI i)] [] h Q := by
  refine e_al o_267_505 rfl ?_
  refine e_al o_267_506 rfl ?_
  refine e_il o_267_507 rfl ?_
  refine e_c 1 o_267_508 rfl ?_
  refine e_bin o_267_509 rfl ?_
  refine s_ia (j := i + 1) o_267_510 sc (by omega) hL (nI_1 i) ?_
  refine e_clI (as := [.ref 4, .int (xs (i + 1))]) (rest := []) o_267_511 rfl rfl (x_okd cl_267_86 ml_86 (Nat.le_of_ble_eq_true rfl) (Nat.le_of_ble_eq_true rfl)) (x_rc0 (ci := 8) (sk_4 hs) mo_86) k ?_
  rintro v h1 ⟨sh1, sc1, k⟩
  refine e_al o_267_514 rfl ?_
  refine e_al o_267_515 rfl ?_
  refine e_il o_267_516 rfl ?_
  refine e_c 1 o_267_517 rfl ?_
  refine e_bin o_267_518 rfl ?_
  refine s_ia (j := i + 1) o_267_519 sc1 (by omega) hL (nI_1 i) ?_
  refine e_clI (as := [.ref 69, .int (xs (i + 1))]) (rest := [.int v]) o_267_520 rfl rfl (x_okd cl_267_222 ml_222 (Nat.le_of_ble_eq_true rfl) (Nat.le_of_ble_eq_true rfl)) (x_rc0 (ci := 9) (sk_69 sh1) mo_222) k ?_
  rintro w h2 ⟨hv, k⟩
  exact e_if (P := v = w) o_267_523 rfl (fun _ => k) (fun z => absurd hv z)
theorem Lw_12 (hs : Sh h) (sc : scr xs L h) (hi : i + 6 ≤ L) (hL : L ≤ 3072) (k : ClI 87 [.ref 4, .int (xs (i + 1))] h (fun v h1 => Sh h1 ∧ scr xs L h1 ∧ ClI 224 [.ref 69, .int (xs (i + 1))] h1 (fun w h2 => v = w ∧ Ev 267 1279 [.ref 0, .ref 4, .ref 69, .int (nI i)] [] h2 Q))) : Ev 267 528 [.ref 0, .ref 4, .ref 69, .int (nI i)] [] h Q := by
  refine e_al o_267_528 rfl ?_
  refine e_al o_267_529 rfl ?_
  refine e_il o_267_530 rfl ?_
  refine e_c 1 o_267_531 rfl ?_
  refine e_bin o_267_532 rfl ?_
  refine s_ia (j := i + 1) o_267_533 sc (by omega) hL (nI_1 i) ?_
  refine e_clI (as := [.ref 4, .int (xs (i + 1))]) (rest := []) o_267_534 rfl rfl (x_okd cl_267_87 ml_87 (Nat.le_of_ble_eq_true rfl) (Nat.le_of_ble_eq_true rfl)) (x_rc0 (ci := 8) (sk_4 hs) mo_87) k ?_
  rintro v h1 ⟨sh1, sc1, k⟩
  refine e_al o_267_537 rfl ?_
  refine e_al o_267_538 rfl ?_
  refine e_il o_267_539 rfl ?_
  refine e_c 1 o_267_540 rfl ?_
  refine e_bin o_267_541 rfl ?_
  refine s_ia (j := i + 1) o_267_542 sc1 (by omega) hL (nI_1 i) ?_
  refine e_clI (as := [.ref 69, .int (xs (i + 1))]) (rest := [.int v]) o_267_543 rfl rfl (x_okd cl_267_224 ml_224 (Nat.le_of_ble_eq_true rfl) (Nat.le_of_ble_eq_true rfl)) (x_rc0 (ci := 9) (sk_69 sh1) mo_224) k ?_
  rintro w h2 ⟨hv, k⟩
  exact e_if (P := v = w) o_267_546 rfl (fun _ => k) (fun z => absurd hv z)
theorem Lw_13 (hs : Sh h) (sc : scr xs L h) (hi : i + 6 ≤ L) (hL : L ≤ 3072) (k : ClI 97 [.ref 4, .int (xs (i + 1)), .int (xs (i + 2))] h (fun v h1 => Sh h1 ∧ scr xs L h1 ∧ ClI 234 [.ref 69, .int (xs (i + 1)), .int (xs (i + 2))] h1 (fun w h2 => v = w ∧ Ev 267 1279 [.ref 0, .ref 4, .ref 69, .int (nI i)] [] h2 Q))) : Ev 267 551 [.ref 0, .ref 4, .ref 69, .int (nI i)] [] h Q := by
  refine e_al o_267_551 rfl ?_
  refine e_al o_267_552 rfl ?_
  refine e_il o_267_553 rfl ?_
  refine e_c 1 o_267_554 rfl ?_
  refine e_bin o_267_555 rfl ?_
  refine s_ia (j := i + 1) o_267_556 sc (by omega) hL (nI_1 i) ?_
  refine e_al o_267_557 rfl ?_
  refine e_il o_267_558 rfl ?_
  refine e_c 2 o_267_559 rfl ?_
  refine e_bin o_267_560 rfl ?_
  refine s_ia (j := i + 2) o_267_561 sc (by omega) hL (nI_add i 2) ?_
  refine e_clI (as := [.ref 4, .int (xs (i + 1)), .int (xs (i + 2))]) (rest := []) o_267_562 rfl rfl (x_okd cl_267_97 ml_97 (Nat.le_of_ble_eq_true rfl) (Nat.le_of_ble_eq_true rfl)) (x_rc0 (ci := 8) (sk_4 hs) mo_97) k ?_
  rintro v h1 ⟨sh1, sc1, k⟩
  refine e_al o_267_565 rfl ?_
  refine e_al o_267_566 rfl ?_
  refine e_il o_267_567 rfl ?_
  refine e_c 1 o_267_568 rfl ?_
  refine e_bin o_267_569 rfl ?_
  refine s_ia (j := i + 1) o_267_570 sc1 (by omega) hL (nI_1 i) ?_
  refine e_al o_267_571 rfl ?_
  refine e_il o_267_572 rfl ?_
  refine e_c 2 o_267_573 rfl ?_
  refine e_bin o_267_574 rfl ?_
  refine s_ia (j := i + 2) o_267_575 sc1 (by omega) hL (nI_add i 2) ?_
  refine e_clI (as := [.ref 69, .int (xs (i + 1)), .int (xs (i + 2))]) (rest := [.int v]) o_267_576 rfl rfl (x_okd cl_267_234 ml_234 (Nat.le_of_ble_eq_true rfl) (Nat.le_of_ble_eq_true rfl)) (x_rc0 (ci := 9) (sk_69 sh1) mo_234) k ?_
  rintro w h2 ⟨hv, k⟩
  exact e_if (P := v = w) o_267_579 rfl (fun _ => k) (fun z => absurd hv z)
theorem Lw_14 (hs : Sh h) (sc : scr xs L h) (hi : i + 6 ≤ L) (hL : L ≤ 3072) (k : ClI 103 [.ref 4, .int (xs (i + 1))] h (fun v h1 => Sh h1 ∧ scr xs L h1 ∧ ClI 225 [.ref 69, .int (xs (i + 1))] h1 (fun w h2 => v = w ∧ Ev 267 1279 [.ref 0, .ref 4, .ref 69, .int (nI i)] [] h2 Q))) : Ev 267 584 [.ref 0, .ref 4, .ref 69, .int (nI i)] [] h Q := by
  refine e_al o_267_584 rfl ?_
  refine e_al o_267_585 rfl ?_
  refine e_il o_267_586 rfl ?_
  refine e_c 1 o_267_587 rfl ?_
  refine e_bin o_267_588 rfl ?_
  refine s_ia (j := i + 1) o_267_589 sc (by omega) hL (nI_1 i) ?_
  refine e_clI (as := [.ref 4, .int (xs (i + 1))]) (rest := []) o_267_590 rfl rfl (x_okd cl_267_103 ml_103 (Nat.le_of_ble_eq_true rfl) (Nat.le_of_ble_eq_true rfl)) (x_rc0 (ci := 8) (sk_4 hs) mo_103) k ?_
  rintro v h1 ⟨sh1, sc1, k⟩
  refine e_al o_267_593 rfl ?_
  refine e_al o_267_594 rfl ?_
  refine e_il o_267_595 rfl ?_
  refine e_c 1 o_267_596 rfl ?_
  refine e_bin o_267_597 rfl ?_
  refine s_ia (j := i + 1) o_267_598 sc1 (by omega) hL (nI_1 i) ?_
  refine e_clI (as := [.ref 69, .int (xs (i + 1))]) (rest := [.int v]) o_267_599 rfl rfl (x_okd cl_267_225 ml_225 (Nat.le_of_ble_eq_true rfl) (Nat.le_of_ble_eq_true rfl)) (x_rc0 (ci := 9) (sk_69 sh1) mo_225) k ?_
  rintro w h2 ⟨hv, k⟩
  exact e_if (P := v = w) o_267_602 rfl (fun _ => k) (fun z => absurd hv z)
theorem Lw_15 (hs : Sh h) (sc : scr xs L h) (hi : i + 6 ≤ L) (hL : L ≤ 3072) (k : ClI 105 [.ref 4, .int (xs (i + 1))] h (fun v h1 => Sh h1 ∧ scr xs L h1 ∧ ClI 227 [.ref 69, .int (xs (i + 1))] h1 (fun w h2 => v = w ∧ Ev 267 1279 [.ref 0, .ref 4, .ref 69, .int (nI i)] [] h2 Q))) : Ev 267 607 [.ref 0, .ref 4, .ref 69, .int (nI i)] [] h Q := by
  refine e_al o_267_607 rfl ?_
  refine e_al o_267_608 rfl ?_
  refine e_il o_267_609 rfl ?_
  refine e_c 1 o_267_610 rfl ?_
  refine e_bin o_267_611 rfl ?_
  refine s_ia (j := i + 1) o_267_612 sc (by omega) hL (nI_1 i) ?_
  refine e_clI (as := [.ref 4, .int (xs (i + 1))]) (rest := []) o_267_613 rfl rfl (x_okd cl_267_105 ml_105 (Nat.le_of_ble_eq_true rfl) (Nat.le_of_ble_eq_true rfl)) (x_rc0 (ci := 8) (sk_4 hs) mo_105) k ?_
  rintro v h1 ⟨sh1, sc1, k⟩
  refine e_al o_267_616 rfl ?_
  refine e_al o_267_617 rfl ?_
  refine e_il o_267_618 rfl ?_
  refine e_c 1 o_267_619 rfl ?_
  refine e_bin o_267_620 rfl ?_
  refine s_ia (j := i + 1) o_267_621 sc1 (by omega) hL (nI_1 i) ?_
  refine e_clI (as := [.ref 69, .int (xs (i + 1))]) (rest := [.int v]) o_267_622 rfl rfl (x_okd cl_267_227 ml_227 (Nat.le_of_ble_eq_true rfl) (Nat.le_of_ble_eq_true rfl)) (x_rc0 (ci := 9) (sk_69 sh1) mo_227) k ?_
  rintro w h2 ⟨hv, k⟩
  exact e_if (P := v = w) o_267_625 rfl (fun _ => k) (fun z => absurd hv z)
theorem Lw_16 (hs : Sh h) (sc : scr xs L h) (hi : i + 6 ≤ L) (hL : L ≤ 3072) (k : ClI 106 [.ref 4, .int (xs (i + 1)), .int (xs (i + 2))] h (fun v h1 => Sh h1 ∧ scr xs L h1 ∧ ClI 228 [.ref 69, .int (xs (i + 1)), .int (xs (i + 2))] h1 (fun w h2 => v = w ∧ Ev 267 1279 [.ref 0, .ref 4, .ref 69, .int (nI i)] [] h2 Q))) : Ev 267 630 [.ref 0, .ref 4, .ref 69, .int (nI i)] [] h Q := by
  refine e_al o_267_630 rfl ?_
  refine e_al o_267_631 rfl ?_
  refine e_il o_267_632 rfl ?_
  refine e_c 1 o_267_633 rfl ?_
  refine e_bin o_267_634 rfl ?_
  refine s_ia (j := i + 1) o_267_635 sc (by omega) hL (nI_1 i) ?_
  refine e_al o_267_636 rfl ?_
  refine e_il o_267_637 rfl ?_
  refine e_c 2 o_267_638 rfl ?_
  refine e_bin o_267_639 rfl ?_
  refine s_ia (j := i + 2) o_267_640 sc (by omega) hL (nI_add i 2) ?_
  refine e_clI (as := [.ref 4, .int (xs (i + 1)), .int (xs (i + 2))]) (rest := []) o_267_641 rfl rfl (x_okd cl_267_106 ml_106 (Nat.le_of_ble_eq_true rfl) (Nat.le_of_ble_eq_true rfl)) (x_rc0 (ci := 8) (sk_4 hs) mo_106) k ?_
  rintro v h1 ⟨sh1, sc1, k⟩
  refine e_al o_267_644 rfl ?_
  refine e_al o_267_645 rfl ?_
  refine e_il o_267_646 rfl ?_
  refine e_c 1 o_267_647 rfl ?_
  refine e_bin o_267_648 rfl ?_
  refine s_ia (j := i + 1) o_267_649 sc1 (by omega) hL (nI_1 i) ?_
  refine e_al o_267_650 rfl ?_
  refine e_il o_267_651 rfl ?_
  refine e_c 2 o_267_652 rfl ?_
  refine e_bin o_267_653 rfl ?_
  refine s_ia (j := i + 2) o_267_654 sc1 (by omega) hL (nI_add i 2) ?_
  refine e_clI (as := [.ref 69, .int (xs (i + 1)), .int (xs (i + 2))]) (rest := [.int v]) o_267_655 rfl rfl (x_okd cl_267_228 ml_228 (Nat.le_of_ble_eq_true rfl) (Nat.le_of_ble_eq_true rfl)) (x_rc0 (ci := 9) (sk_69 sh1) mo_228) k ?_
  rintro w h2 ⟨hv, k⟩
  exact e_if (P := v = w) o_267_658 rfl (fun _ => k) (fun z => absurd hv z)
theorem Lw_17 (hs : Sh h) (sc : scr xs L h) (hi : i + 6 ≤ L) (hL : L ≤ 3072) (k : ClI 108 [.ref 4, .int (xs (i + 1))] h (fun v h1 => Sh h1 ∧ scr xs L h1 ∧ ClI 230 [.ref 69, .int (xs (i + 1))] h1 (fun w h2 => v = w ∧ Ev 267 1279 [.ref 0, .ref 4, .ref 69, .int (nI i)] [] h2 Q))) : Ev 267 663 [.ref 0, .ref 4, .ref 69, .int (nI i)] [] h Q := by
  refine e_al o_267_663 rfl ?_
  refine e_al o_267_664 rfl ?_
  refine e_il o_267_665 rfl ?_
  refine e_c 1 o_267_666 rfl ?_
  refine e_bin o_267_667 rfl ?_
  refine s_ia (j := i + 1) o_267_668 sc (by omega) hL (nI_1 i) ?_
  refine e_clI (as := [.ref 4, .int (xs (i + 1))]) (rest := []) o_267_669 rfl rfl (x_okd cl_267_108 ml_108 (Nat.le_of_ble_eq_true rfl) (Nat.le_of_ble_eq_true rfl)) (x_rc0 (ci := 8) (sk_4 hs) mo_108) k ?_
  rintro v h1 ⟨sh1, sc1, k⟩
  refine e_al o_267_672 rfl ?_
  refine e_al o_267_673 rfl ?_
  refine e_il o_267_674 rfl ?_
  refine e_c 1 o_267_675 rfl ?_
  refine e_bin o_267_676 rfl ?_
  refine s_ia (j := i + 1) o_267_677 sc1 (by omega) hL (nI_1 i) ?_
  refine e_clI (as := [.ref 69, .int (xs (i + 1))]) (rest := [.int v]) o_267_678 rfl rfl (x_okd cl_267_230 ml_230 (Nat.le_of_ble_eq_true rfl) (Nat.le_of_ble_eq_true rfl)) (x_rc0 (ci := 9) (sk_69 sh1) mo_230) k ?_
  rintro w h2 ⟨hv, k⟩
  exact e_if (P := v = w) o_267_681 rfl (fun _ => k) (fun z => absurd hv z)
theorem Lw_18 (hs : Sh h) (sc : scr xs L h) (hi : i + 6 ≤ L) (hL : L ≤ 3072) (k : ClI 109 [.ref 4, .int (xs (i + 1)), .int (xs (i + 2))] h (fun v h1 => Sh h1 ∧ scr xs L h1 ∧ ClI 231 [.ref 69, .int (xs (i + 1)), .int (xs (i + 2))] h1 (fun w h2 => v = w ∧ Ev 267 1279 [.ref 0, .ref 4, .ref 69, .int (nI i)] [] h2 Q))) : Ev 267 686 [.ref 0, .ref 4, .ref 69, .int (nI i)] [] h Q := by
  refine e_al o_267_686 rfl ?_
  refine e_al o_267_687 rfl ?_
  refine e_il o_267_688 rfl ?_
  refine e_c 1 o_267_689 rfl ?_
  refine e_bin o_267_690 rfl ?_
  refine s_ia (j := i + 1) o_267_691 sc (by omega) hL (nI_1 i) ?_
  refine e_al o_267_692 rfl ?_
  refine e_il o_267_693 rfl ?_
  refine e_c 2 o_267_694 rfl ?_
  refine e_bin o_267_695 rfl ?_
  refine s_ia (j := i + 2) o_267_696 sc (by omega) hL (nI_add i 2) ?_
  refine e_clI (as := [.ref 4, .int (xs (i + 1)), .int (xs (i + 2))]) (rest := []) o_267_697 rfl rfl (x_okd cl_267_109 ml_109 (Nat.le_of_ble_eq_true rfl) (Nat.le_of_ble_eq_true rfl)) (x_rc0 (ci := 8) (sk_4 hs) mo_109) k ?_
  rintro v h1 ⟨sh1, sc1, k⟩
  refine e_al o_267_700 rfl ?_
  refine e_al o_267_701 rfl ?_
  refine e_il o_267_702 rfl ?_
  refine e_c 1 o_267_703 rfl ?_
  refine e_bin o_267_704 rfl ?_
  refine s_ia (j := i + 1) o_267_705 sc1 (by omega) hL (nI_1 i) ?_
  refine e_al o_267_706 rfl ?_
  refine e_il o_267_707 rfl ?_
  refine e_c 2 o_267_708 rfl ?_
  refine e_bin o_267_709 rfl ?_
  refine s_ia (j := i + 2) o_267_710 sc1 (by omega) hL (nI_add i 2) ?_
  refine e_clI (as := [.ref 69, .int (xs (i + 1)), .int (xs (i + 2))]) (rest := [.int v]) o_267_711 rfl rfl (x_okd cl_267_231 ml_231 (Nat.le_of_ble_eq_true rfl) (Nat.le_of_ble_eq_true rfl)) (x_rc0 (ci := 9) (sk_69 sh1) mo_231) k ?_
  rintro w h2 ⟨hv, k⟩
  exact e_if (P := v = w) o_267_714 rfl (fun _ => k) (fun z => absurd hv z)
theorem Lw_19 (hs : Sh h) (sc : scr xs L h) (hi : i + 6 ≤ L) (hL : L ≤ 3072) (k : ClI 110 [.ref 4, .int (xs (i + 1))] h (fun v h1 => Sh h1 ∧ scr xs L h1 ∧ ClI 238 [.ref 69, .int (xs (i + 1))] h1 (fun w h2 => v = w ∧ Ev 267 1279 [.ref 0, .ref 4, .ref 69, .int (nI i)] [] h2 Q))) : Ev 267 719 [.ref 0, .ref 4, .ref 69, .int (nI i)] [] h Q := by
  refine e_al o_267_719 rfl ?_
  refine e_al o_267_720 rfl ?_
  refine e_il o_267_721 rfl ?_
  refine e_c 1 o_267_722 rfl ?_
  refine e_bin o_267_723 rfl ?_
  refine s_ia (j := i + 1) o_267_724 sc (by omega) hL (nI_1 i) ?_
  refine e_clI (as := [.ref 4, .int (xs (i + 1))]) (rest := []) o_267_725 rfl rfl (x_okd cl_267_110 ml_110 (Nat.le_of_ble_eq_true rfl) (Nat.le_of_ble_eq_true rfl)) (x_rc0 (ci := 8) (sk_4 hs) mo_110) k ?_
  rintro v h1 ⟨sh1, sc1, k⟩
  refine e_al o_267_728 rfl ?_
  refine e_al o_267_729 rfl ?_
  refine e_il o_267_730 rfl ?_
  refine e_c 1 o_267_731 rfl ?_
  refine e_bin o_267_732 rfl ?_
  refine s_ia (j := i + 1) o_267_733 sc1 (by omega) hL (nI_1 i) ?_
  refine e_clI (as := [.ref 69, .int (xs (i + 1))]) (rest := [.int v]) o_267_734 rfl rfl (x_okd cl_267_238 ml_238 (Nat.le_of_ble_eq_true rfl) (Nat.le_of_ble_eq_true rfl)) (x_rc0 (ci := 9) (sk_69 sh1) mo_238) k ?_
  rintro w h2 ⟨hv, k⟩
  exact e_if (P := v = w) o_267_737 rfl (fun _ => k) (fun z => absurd hv z)
theorem Lw_20 (hs : Sh h) (sc : scr xs L h) (hi : i + 6 ≤ L) (hL : L ≤ 3072) (k : ClI 112 [.ref 4, .int (xs (i + 1)), .int (bz (xs (i + 2)))] h (fun v h1 => Sh h1 ∧ scr xs L h1 ∧ ClI 240 [.ref 69, .int (xs (i + 1)), .int (bz (xs (i + 2)))] h1 (fun w h2 => v = w ∧ Ev 267 1279 [.ref 0, .ref 4, .ref 69, .int (nI i)] [] h2 Q))) : Ev 267 742 [.ref 0, .ref 4, .ref 69, .int (nI i)] [] h Q := by
  refine e_al o_267_742 rfl ?_
  refine e_al o_267_743 rfl ?_
  refine e_il o_267_744 rfl ?_
  refine e_c 1 o_267_745 rfl ?_
  refine e_bin o_267_746 rfl ?_
  refine s_ia (j := i + 1) o_267_747 sc (by omega) hL (nI_1 i) ?_
  refine e_al o_267_748 rfl ?_
  refine e_il o_267_749 rfl ?_
  refine e_c 2 o_267_750 rfl ?_
  refine e_bin o_267_751 rfl ?_
  refine s_ia (j := i + 2) o_267_752 sc (by omega) hL (nI_add i 2) ?_
  refine s_bz o_267_753 o_267_756 o_267_757 o_267_760 ?_
  refine e_clI (as := [.ref 4, .int (xs (i + 1)), .int (bz (xs (i + 2)))]) (rest := []) o_267_761 rfl rfl (x_okd cl_267_112 ml_112 (Nat.le_of_ble_eq_true rfl) (Nat.le_of_ble_eq_true rfl)) (x_rc0 (ci := 8) (sk_4 hs) mo_112) k ?_
  rintro v h1 ⟨sh1, sc1, k⟩
  refine e_al o_267_764 rfl ?_
  refine e_al o_267_765 rfl ?_
  refine e_il o_267_766 rfl ?_
  refine e_c 1 o_267_767 rfl ?_
  refine e_bin o_267_768 rfl ?_
  refine s_ia (j := i + 1) o_267_769 sc1 (by omega) hL (nI_1 i) ?_
  refine e_al o_267_770 rfl ?_
  refine e_il o_267_771 rfl ?_
  refine e_c 2 o_267_772 rfl ?_
  refine e_bin o_267_773 rfl ?_
  refine s_ia (j := i + 2) o_267_774 sc1 (by omega) hL (nI_add i 2) ?_
  refine s_bz o_267_775 o_267_778 o_267_779 o_267_782 ?_
  refine e_clI (as := [.ref 69, .int (xs (i + 1)), .int (bz (xs (i + 2)))]) (rest := [.int v]) o_267_783 rfl rfl (x_okd cl_267_240 ml_240 (Nat.le_of_ble_eq_true rfl) (Nat.le_of_ble_eq_true rfl)) (x_rc0 (ci := 9) (sk_69 sh1) mo_240) k ?_
  rintro w h2 ⟨hv, k⟩
  exact e_if (P := v = w) o_267_786 rfl (fun _ => k) (fun z => absurd hv z)
theorem Lw_21 (hs : Sh h) (sc : scr xs L h) (hi : i + 6 ≤ L) (hL : L ≤ 3072) (k : ClI 115 [.ref 4, .int (xs (i + 1)), .int (xs (i + 2))] h (fun v h1 => Sh h1 ∧ scr xs L h1 ∧ ClI 242 [.ref 69, .int (xs (i + 1)), .int (xs (i + 2))] h1 (fun w h2 => v = w ∧ Ev 267 1279 [.ref 0, .ref 4, .ref 69, .int (nI i)] [] h2 Q))) : Ev 267 791 [.ref 0, .ref 4, .ref 69, .int (nI i)] [] h Q := by
  refine e_al o_267_791 rfl ?_
  refine e_al o_267_792 rfl ?_
  refine e_il o_267_793 rfl ?_
  refine e_c 1 o_267_794 rfl ?_
  refine e_bin o_267_795 rfl ?_
  refine s_ia (j := i + 1) o_267_796 sc (by omega) hL (nI_1 i) ?_
  refine e_al o_267_797 rfl ?_
  refine e_il o_267_798 rfl ?_
  refine e_c 2 o_267_799 rfl ?_
  refine e_bin o_267_800 rfl ?_
  refine s_ia (j := i + 2) o_267_801 sc (by omega) hL (nI_add i 2) ?_
  refine e_clI (as := [.ref 4, .int (xs (i + 1)), .int (xs (i + 2))]) (rest := []) o_267_802 rfl rfl (x_okd cl_267_115 ml_115 (Nat.le_of_ble_eq_true rfl) (Nat.le_of_ble_eq_true rfl)) (x_rc0 (ci := 8) (sk_4 hs) mo_115) k ?_
  rintro v h1 ⟨sh1, sc1, k⟩
  refine e_al o_267_805 rfl ?_
  refine e_al o_267_806 rfl ?_
  refine e_il o_267_807 rfl ?_
  refine e_c 1 o_267_808 rfl ?_
  refine e_bin o_267_809 rfl ?_
  refine s_ia (j := i + 1) o_267_810 sc1 (by omega) hL (nI_1 i) ?_
  refine e_al o_267_811 rfl ?_
  refine e_il o_267_812 rfl ?_
  refine e_c 2 o_267_813 rfl ?_
  refine e_bin o_267_814 rfl ?_
  refine s_ia (j := i + 2) o_267_815 sc1 (by omega) hL (nI_add i 2) ?_
  refine e_clI (as := [.ref 69, .int (xs (i + 1)), .int (xs (i + 2))]) (rest := [.int v]) o_267_816 rfl rfl (x_okd cl_267_242 ml_242 (Nat.le_of_ble_eq_true rfl) (Nat.le_of_ble_eq_true rfl)) (x_rc0 (ci := 9) (sk_69 sh1) mo_242) k ?_
  rintro w h2 ⟨hv, k⟩
  exact e_if (P := v = w) o_267_819 rfl (fun _ => k) (fun z => absurd hv z)
theorem Lw_22 (hs : Sh h) (sc : scr xs L h) (hi : i + 6 ≤ L) (hL : L ≤ 3072) (k : ClI 118 [.ref 4, .int (xs (i + 1)), .int (xs (i + 2))] h (fun v h1 => Sh h1 ∧ scr xs L h1 ∧ ClI 244 [.ref 69, .int (xs (i + 1)), .int (xs (i + 2))] h1 (fun w h2 => v = w ∧ Ev 267 1279 [.ref 0, .ref 4, .ref 69, .int (nI i)] [] h2 Q))) : Ev 267 824 [.ref 0, .ref 4, .ref 69, .int (nI i)] [] h Q := by
  refine e_al o_267_824 rfl ?_
  refine e_al o_267_825 rfl ?_
  refine e_il o_267_826 rfl ?_
  refine e_c 1 o_267_827 rfl ?_
  refine e_bin o_267_828 rfl ?_
  refine s_ia (j := i + 1) o_267_829 sc (by omega) hL (nI_1 i) ?_
  refine e_al o_267_830 rfl ?_
  refine e_il o_267_831 rfl ?_
  refine e_c 2 o_267_832 rfl ?_
  refine e_bin o_267_833 rfl ?_
  refine s_ia (j := i + 2) o_267_834 sc (by omega) hL (nI_add i 2) ?_
  refine e_clI (as := [.ref 4, .int (xs (i + 1)), .int (xs (i + 2))]) (rest := []) o_267_835 rfl rfl (x_okd cl_267_118 ml_118 (Nat.le_of_ble_eq_true rfl) (Nat.le_of_ble_eq_true rfl)) (x_rc0 (ci := 8) (sk_4 hs) mo_118) k ?_
  rintro v h1 ⟨sh1, sc1, k⟩
  refine e_al o_267_838 rfl ?_
  refine e_al o_267_839 rfl ?_
  refine e_il o_267_840 rfl ?_
  refine e_c 1 o_267_841 rfl ?_
  refine e_bin o_267_842 rfl ?_
  refine s_ia (j := i + 1) o_267_843 sc1 (by omega) hL (nI_1 i) ?_
  refine e_al o_267_844 rfl ?_
  refine e_il o_267_845 rfl ?_
  refine e_c 2 o_267_846 rfl ?_
  refine e_bin o_267_847 rfl ?_
  refine s_ia (j := i + 2) o_267_848 sc1 (by omega) hL (nI_add i 2) ?_
  refine e_clI (as := [.ref 69, .int (xs (i + 1)), .int (xs (i + 2))]) (rest := [.int v]) o_267_849 rfl rfl (x_okd cl_267_244 ml_244 (Nat.le_of_ble_eq_true rfl) (Nat.le_of_ble_eq_true rfl)) (x_rc0 (ci := 9) (sk_69 sh1) mo_244) k ?_
  rintro w h2 ⟨hv, k⟩
  exact e_if (P := v = w) o_267_852 rfl (fun _ => k) (fun z => absurd hv z)
theorem Lw_23 (hs : Sh h) (sc : scr xs L h) (hi : i + 6 ≤ L) (hL : L ≤ 3072) (k : ClI 120 [.ref 4, .int (xs (i + 1))] h (fun v h1 => Sh h1 ∧ scr xs L h1 ∧ ClI 245 [.ref 69, .int (xs (i + 1))] h1 (fun w h2 => v = w ∧ Ev 267 1279 [.ref 0, .ref 4, .ref 69, .int (nI i)] [] h2 Q))) : Ev 267 857 [.ref 0, .ref 4, .ref 69, .int (nI i)] [] h Q := by
  refine e_al o_267_857 rfl ?_
  refine e_al o_267_858 rfl ?_
  refine e_il o_267_859 rfl ?_
  refine e_c 1 o_267_860 rfl ?_
  refine e_bin o_267_861 rfl ?_
  refine s_ia (j := i + 1) o_267_862 sc (by omega) hL (nI_1 i) ?_
  refine e_clI (as := [.ref 4, .int (xs (i + 1))]) (rest := []) o_267_863 rfl rfl (x_okd cl_267_120 ml_120 (Nat.le_of_ble_eq_true rfl) (Nat.le_of_ble_eq_true rfl)) (x_rc0 (ci := 8) (sk_4 hs) mo_120) k ?_
  rintro v h1 ⟨sh1, sc1, k⟩
  refine e_al o_267_866 rfl ?_
  refine e_al o_267_867 rfl ?_
  refine e_il o_267_868 rfl ?_
  refine e_c 1 o_267_869 rfl ?_
  refine e_bin o_267_870 rfl ?_
  refine s_ia (j := i + 1) o_267_871 sc1 (by omega) hL (nI_1 i) ?_
  refine e_clI (as := [.ref 69, .int (xs (i + 1))]) (rest := [.int v]) o_267_872 rfl rfl (x_okd cl_267_245 ml_245 (Nat.le_of_ble_eq_true rfl) (Nat.le_of_ble_eq_true rfl)) (x_rc0 (ci := 9) (sk_69 sh1) mo_245) k ?_
  rintro w h2 ⟨hv, k⟩
  exact e_if (P := v = w) o_267_875 rfl (fun _ => k) (fun z => absurd hv z)
theorem Lw_24 (hs : Sh h) (sc : scr xs L h) (hi : i + 6 ≤ L) (hL : L ≤ 3072) (k : ClI 123 [.ref 4, .int (xs (i + 1))] h (fun v h1 => Sh h1 ∧ scr xs L h1 ∧ ClI 232 [.ref 69, .int (xs (i + 1))] h1 (fun w h2 => v = w ∧ Ev 267 1279 [.ref 0, .ref 4, .ref 69, .int (nI i)] [] h2 Q))) : Ev 267 880 [.ref 0, .ref 4, .ref 69, .int (nI i)] [] h Q := by
  refine e_al o_267_880 rfl ?_
  refine e_al o_267_881 rfl ?_
  refine e_il o_267_882 rfl ?_
  refine e_c 1 o_267_883 rfl ?_
  refine e_bin o_267_884 rfl ?_
  refine s_ia (j := i + 1) o_267_885 sc (by omega) hL (nI_1 i) ?_
  refine e_clI (as := [.ref 4, .int (xs (i + 1))]) (rest := []) o_267_886 rfl rfl (x_okd cl_267_123 ml_123 (Nat.le_of_ble_eq_true rfl) (Nat.le_of_ble_eq_true rfl)) (x_rc0 (ci := 8) (sk_4 hs) mo_123) k ?_
  rintro v h1 ⟨sh1, sc1, k⟩
  refine e_al o_267_889 rfl ?_
  refine e_al o_267_890 rfl ?_
  refine e_il o_267_891 rfl ?_
  refine e_c 1 o_267_892 rfl ?_
  refine e_bin o_267_893 rfl ?_
  refine s_ia (j := i + 1) o_267_894 sc1 (by omega) hL (nI_1 i) ?_
  refine e_clI (as := [.ref 69, .int (xs (i + 1))]) (rest := [.int v]) o_267_895 rfl rfl (x_okd cl_267_232 ml_232 (Nat.le_of_ble_eq_true rfl) (Nat.le_of_ble_eq_true rfl)) (x_rc0 (ci := 9) (sk_69 sh1) mo_232) k ?_
  rintro w h2 ⟨hv, k⟩
  exact e_if (P := v = w) o_267_898 rfl (fun _ => k) (fun z => absurd hv z)
theorem Lw_25 (hs : Sh h) (sc : scr xs L h) (hi : i + 6 ≤ L) (hL : L ≤ 3072) (k : ClI 125 [.ref 4, .int (xs (i + 1)), .int (xs (i + 2))] h (fun v h1 => Sh h1 ∧ scr xs L h1 ∧ ClI 250 [.ref 69, .int (xs (i + 1)), .int (xs (i + 2))] h1 (fun w h2 => v = w ∧ Ev 267 1279 [.ref 0, .ref 4, .ref 69, .int (nI i)] [] h2 Q))) : Ev 267 903 [.ref 0, .ref 4, .ref 69, .int (nI i)] [] h Q := by
  refine e_al o_267_903 rfl ?_
  refine e_al o_267_904 rfl ?_
  refine e_il o_267_905 rfl ?_
  refine e_c 1 o_267_906 rfl ?_
  refine e_bin o_267_907 rfl ?_
  refine s_ia (j := i + 1) o_267_908 sc (by omega) hL (nI_1 i) ?_
  refine e_al o_267_909 rfl ?_
  refine e_il o_267_910 rfl ?_
  refine e_c 2 o_267_911 rfl ?_
  refine e_bin o_267_912 rfl ?_
  refine s_ia (j := i + 2) o_267_913 sc (by omega) hL (nI_add i 2) ?_
  refine e_clI (as := [.ref 4, .int (xs (i + 1)), .int (xs (i + 2))]) (rest := []) o_267_914 rfl rfl (x_okd cl_267_125 ml_125 (Nat.le_of_ble_eq_true rfl) (Nat.le_of_ble_eq_true rfl)) (x_rc0 (ci := 8) (sk_4 hs) mo_125) k ?_
  rintro v h1 ⟨sh1, sc1, k⟩
  refine e_al o_267_917 rfl ?_
  refine e_al o_267_918 rfl ?_
  refine e_il o_267_919 rfl ?_
  refine e_c 1 o_267_920 rfl ?_
  refine e_bin o_267_921 rfl ?_
  refine s_ia (j := i + 1) o_267_922 sc1 (by omega) hL (nI_1 i) ?_
  refine e_al o_267_923 rfl ?_
  refine e_il o_267_924 rfl ?_
  refine e_c 2 o_267_925 rfl ?_
  refine e_bin o_267_926 rfl ?_
  refine s_ia (j := i + 2) o_267_927 sc1 (by omega) hL (nI_add i 2) ?_
  refine e_clI (as := [.ref 69, .int (xs (i + 1)), .int (xs (i + 2))]) (rest := [.int v]) o_267_928 rfl rfl (x_okd cl_267_250 ml_250 (Nat.le_of_ble_eq_true rfl) (Nat.le_of_ble_eq_true rfl)) (x_rc0 (ci := 9) (sk_69 sh1) mo_250) k ?_
  rintro w h2 ⟨hv, k⟩
  exact e_if (P := v = w) o_267_931 rfl (fun _ => k) (fun z => absurd hv z)
theorem Lw_26 (hs : Sh h) (sc : scr xs L h) (hi : i + 6 ≤ L) (hL : L ≤ 3072) (k : ClI 131 [.ref 4, .int (xs (i + 1)), .int (xs (i + 2)), .int (xs (i + 3))] h (fun v h1 => Sh h1 ∧ scr xs L h1 ∧ ClI 247 [.ref 69, .int (xs (i + 1)), .int (xs (i + 2)), .int (xs (i + 3))] h1 (fun w h2 => v = w ∧ Ev 267 1279 [.ref 0, .ref 4, .ref 69, .int (nI i)] [] h2 Q))) : Ev 267 936 [.ref 0, .ref 4, .ref 69, .int (nI i)] [] h Q := by
  refine e_al o_267_936 rfl ?_
  refine e_al o_267_937 rfl ?_
  refine e_il o_267_938 rfl ?_
  refine e_c 1 o_267_939 rfl ?_
  refine e_bin o_267_940 rfl ?_
  refine s_ia (j := i + 1) o_267_941 sc (by omega) hL (nI_1 i) ?_
  refine e_al o_267_942 rfl ?_
  refine e_il o_267_943 rfl ?_
  refine e_c 2 o_267_944 rfl ?_
  refine e_bin o_267_945 rfl ?_
  refine s_ia (j := i + 2) o_267_946 sc (by omega) hL (nI_add i 2) ?_
  refine e_al o_267_947 rfl ?_
  refine e_il o_267_948 rfl ?_
  refine e_c 3 o_267_949 rfl ?_
  refine e_bin o_267_950 rfl ?_
  refine s_ia (j := i + 3) o_267_951 sc (by omega) hL (nI_add i 3) ?_
  refine e_clI (as := [.ref 4, .int (xs (i + 1)), .int (xs (i + 2)), .int (xs (i + 3))]) (rest := []) o_267_952 rfl rfl (x_okd cl_267_131 ml_131 (Nat.le_of_ble_eq_true rfl) (Nat.le_of_ble_eq_true rfl)) (x_rc0 (ci := 8) (sk_4 hs) mo_131) k ?_
  rintro v h1 ⟨sh1, sc1, k⟩
  refine e_al o_267_955 rfl ?_
  refine e_al o_267_956 rfl ?_
  refine e_il o_267_957 rfl ?_
  refine e_c 1 o_267_958 rfl ?_
  refine e_bin o_267_959 rfl ?_
  refine s_ia (j := i + 1) o_267_960 sc1 (by omega) hL (nI_1 i) ?_
  refine e_al o_267_961 rfl ?_
  refine e_il o_267_962 rfl ?_
  refine e_c 2 o_267_963 rfl ?_
  refine e_bin o_267_964 rfl ?_
  refine s_ia (j := i + 2) o_267_965 sc1 (by omega) hL (nI_add i 2) ?_
  refine e_al o_267_966 rfl ?_
  refine e_il o_267_967 rfl ?_
  refine e_c 3 o_267_968 rfl ?_
  refine e_bin o_267_969 rfl ?_
  refine s_ia (j := i + 3) o_267_970 sc1 (by omega) hL (nI_add i 3) ?_
  refine e_clI (as := [.ref 69, .int (xs (i + 1)), .int (xs (i + 2)), .int (xs (i + 3))]) (rest := [.int v]) o_267_971 rfl rfl (x_okd cl_267_247 ml_247 (Nat.le_of_ble_eq_true rfl) (Nat.le_of_ble_eq_true rfl)) (x_rc0 (ci := 9) (sk_69 sh1) mo_247) k ?_
  rintro w h2 ⟨hv, k⟩
  exact e_if (P := v = w) o_267_974 rfl (fun _ => k) (fun z => absurd hv z)
theorem Lw_27 (hs : Sh h) (sc : scr xs L h) (hi : i + 6 ≤ L) (hL : L ≤ 3072) (k : ClI 135 [.ref 4, .int (xs (i + 1)), .int (xs (i + 2)), .int (xs (i + 3))] h (fun v h1 => Sh h1 ∧ scr xs L h1 ∧ ClI 233 [.ref 69, .int (xs (i + 1)), .int (xs (i + 2)), .int (xs (i + 3))] h1 (fun w h2 => v = w ∧ Ev 267 1279 [.ref 0, .ref 4, .ref 69, .int (nI i)] [] h2 Q))) : Ev 267 979 [.ref 0, .ref 4, .ref 69, .int (nI i)] [] h Q := by
  refine e_al o_267_979 rfl ?_
  refine e_al o_267_980 rfl ?_
  refine e_il o_267_981 rfl ?_
  refine e_c 1 o_267_982 rfl ?_
  refine e_bin o_267_983 rfl ?_
  refine s_ia (j := i + 1) o_267_984 sc (by omega) hL (nI_1 i) ?_
  refine e_al o_267_985 rfl ?_
  refine e_il o_267_986 rfl ?_
  refine e_c 2 o_267_987 rfl ?_
  refine e_bin o_267_988 rfl ?_
  refine s_ia (j := i + 2) o_267_989 sc (by omega) hL (nI_add i 2) ?_
  refine e_al o_267_990 rfl ?_
  refine e_il o_267_991 rfl ?_
  refine e_c 3 o_267_992 rfl ?_
  refine e_bin o_267_993 rfl ?_
  refine s_ia (j := i + 3) o_267_994 sc (by omega) hL (nI_add i 3) ?_
  refine e_clI (as := [.ref 4, .int (xs (i + 1)), .int (xs (i + 2)), .int (xs (i + 3))]) (rest := []) o_267_995 rfl rfl (x_okd cl_267_135 ml_135 (Nat.le_of_ble_eq_true rfl) (Nat.le_of_ble_eq_true rfl)) (x_rc0 (ci := 8) (sk_4 hs) mo_135) k ?_
  rintro v h1 ⟨sh1, sc1, k⟩
  refine e_al o_267_998 rfl ?_
  refine e_al o_267_999 rfl ?_
  refine e_il o_267_1000 rfl ?_
  refine e_c 1 o_267_1001 rfl ?_
  refine e_bin o_267_1002 rfl ?_
  refine s_ia (j := i + 1) o_267_1003 sc1 (by omega) hL (nI_1 i) ?_
  refine e_al o_267_1004 rfl ?_
  refine e_il o_267_1005 rfl ?_
  refine e_c 2 o_267_1006 rfl ?_
  refine e_bin o_267_1007 rfl ?_
  refine s_ia (j := i + 2) o_267_1008 sc1 (by omega) hL (nI_add i 2) ?_
  refine e_al o_267_1009 rfl ?_
  refine e_il o_267_1010 rfl ?_
  refine e_c 3 o_267_1011 rfl ?_
  refine e_bin o_267_1012 rfl ?_
  refine s_ia (j := i + 3) o_267_1013 sc1 (by omega) hL (nI_add i 3) ?_
  refine e_clI (as := [.ref 69, .int (xs (i + 1)), .int (xs (i + 2)), .int (xs (i + 3))]) (rest := [.int v]) o_267_1014 rfl rfl (x_okd cl_267_233 ml_233 (Nat.le_of_ble_eq_true rfl) (Nat.le_of_ble_eq_true rfl)) (x_rc0 (ci := 9) (sk_69 sh1) mo_233) k ?_
  rintro w h2 ⟨hv, k⟩
  exact e_if (P := v = w) o_267_1017 rfl (fun _ => k) (fun z => absurd hv z)
theorem Lw_28 (hs : Sh h) (sc : scr xs L h) (hi : i + 6 ≤ L) (hL : L ≤ 3072) (k : ClI 137 [.ref 4, .int (xs (i + 1)), .int (xs (i + 2)), .int (xs (i + 3))] h (fun v h1 => Sh h1 ∧ scr xs L h1 ∧ ClI 257 [.ref 69, .int (xs (i + 1)), .int (xs (i + 2)), .int (xs (i + 3))] h1 (fun w h2 => v = w ∧ Ev 267 1279 [.ref 0, .ref 4, .ref 69, .int (nI i)] [] h2 Q))) : Ev 267 1022 [.ref 0, .ref 4, .ref 69, .int (nI i)] [] h Q := by
  refine e_al o_267_1022 rfl ?_
  refine e_al o_267_1023 rfl ?_
  refine e_il o_267_1024 rfl ?_
  refine e_c 1 o_267_1025 rfl ?_
  refine e_bin o_267_1026 rfl ?_
  refine s_ia (j := i + 1) o_267_1027 sc (by omega) hL (nI_1 i) ?_
  refine e_al o_267_1028 rfl ?_
  refine e_il o_267_1029 rfl ?_
  refine e_c 2 o_267_1030 rfl ?_
  refine e_bin o_267_1031 rfl ?_
  refine s_ia (j := i + 2) o_267_1032 sc (by omega) hL (nI_add i 2) ?_
  refine e_al o_267_1033 rfl ?_
  refine e_il o_267_1034 rfl ?_
  refine e_c 3 o_267_1035 rfl ?_
  refine e_bin o_267_1036 rfl ?_
  refine s_ia (j := i + 3) o_267_1037 sc (by omega) hL (nI_add i 3) ?_
  refine e_clI (as := [.ref 4, .int (xs (i + 1)), .int (xs (i + 2)), .int (xs (i + 3))]) (rest := []) o_267_1038 rfl rfl (x_okd cl_267_137 ml_137 (Nat.le_of_ble_eq_true rfl) (Nat.le_of_ble_eq_true rfl)) (x_rc0 (ci := 8) (sk_4 hs) mo_137) k ?_
  rintro v h1 ⟨sh1, sc1, k⟩
  refine e_al o_267_1041 rfl ?_
  refine e_al o_267_1042 rfl ?_
  refine e_il o_267_1043 rfl ?_
  refine e_c 1 o_267_1044 rfl ?_
  refine e_bin o_267_1045 rfl ?_
  refine s_ia (j := i + 1) o_267_1046 sc1 (by omega) hL (nI_1 i) ?_
  refine e_al o_267_1047 rfl ?_
  refine e_il o_267_1048 rfl ?_
  refine e_c 2 o_267_1049 rfl ?_
  refine e_bin o_267_1050 rfl ?_
  refine s_ia (j := i + 2) o_267_1051 sc1 (by omega) hL (nI_add i 2) ?_
  refine e_al o_267_1052 rfl ?_
  refine e_il o_267_1053 rfl ?_
  refine e_c 3 o_267_1054 rfl ?_
  refine e_bin o_267_1055 rfl ?_
  refine s_ia (j := i + 3) o_267_1056 sc1 (by omega) hL (nI_add i 3) ?_
  refine e_clI (as := [.ref 69, .int (xs (i + 1)), .int (xs (i + 2)), .int (xs (i + 3))]) (rest := [.int v]) o_267_1057 rfl rfl (x_okd cl_267_257 ml_257 (Nat.le_of_ble_eq_true rfl) (Nat.le_of_ble_eq_true rfl)) (x_rc0 (ci := 9) (sk_69 sh1) mo_257) k ?_
  rintro w h2 ⟨hv, k⟩
  exact e_if (P := v = w) o_267_1060 rfl (fun _ => k) (fun z => absurd hv z)
theorem Lw_29 (hs : Sh h) (sc : scr xs L h) (hi : i + 6 ≤ L) (hL : L ≤ 3072) (k : ClI 139 [.ref 4] h (fun v h1 => Sh h1 ∧ scr xs L h1 ∧ ClI 258 [.ref 69] h1 (fun w h2 => v = w ∧ Ev 267 1279 [.ref 0, .ref 4, .ref 69, .int (nI i)] [] h2 Q))) : Ev 267 1065 [.ref 0, .ref 4, .ref 69, .int (nI i)] [] h Q := by
  refine e_al o_267_1065 rfl ?_
  refine e_clI (as := [.ref 4]) (rest := []) o_267_1066 rfl rfl (x_okd cl_267_139 ml_139 (Nat.le_of_ble_eq_true rfl) (Nat.le_of_ble_eq_true rfl)) (x_rc0 (ci := 8) (sk_4 hs) mo_139) k ?_
  rintro v h1 ⟨sh1, sc1, k⟩
  refine e_al o_267_1069 rfl ?_
  refine e_clI (as := [.ref 69]) (rest := [.int v]) o_267_1070 rfl rfl (x_okd cl_267_258 ml_258 (Nat.le_of_ble_eq_true rfl) (Nat.le_of_ble_eq_true rfl)) (x_rc0 (ci := 9) (sk_69 sh1) mo_258) k ?_
  rintro w h2 ⟨hv, k⟩
  exact e_if (P := v = w) o_267_1073 rfl (fun _ => k) (fun z => absurd hv z)
theorem Lw_30 (hs : Sh h) (sc : scr xs L h) (hi : i + 6 ≤ L) (hL : L ≤ 3072) (k : ClI 140 [.ref 4, .int (xs (i + 1)), .int (xs (i + 2))] h (fun v h1 => Sh h1 ∧ scr xs L h1 ∧ ClI 259 [.ref 69, .int (xs (i + 1)), .int (xs (i + 2))] h1 (fun w h2 => v = w ∧ Ev 267 1279 [.ref 0, .ref 4, .ref 69, .int (nI i)] [] h2 Q))) : Ev 267 1078 [.ref 0, .ref 4, .ref 69, .int (nI i)] [] h Q := by
  refine e_al o_267_1078 rfl ?_
  refine e_al o_267_1079 rfl ?_
  refine e_il o_267_1080 rfl ?_
  refine e_c 1 o_267_1081 rfl ?_
  refine e_bin o_267_1082 rfl ?_
  refine s_ia (j := i + 1) o_267_1083 sc (by omega) hL (nI_1 i) ?_
  refine e_al o_267_1084 rfl ?_
  refine e_il o_267_1085 rfl ?_
  refine e_c 2 o_267_1086 rfl ?_
  refine e_bin o_267_1087 rfl ?_
  refine s_ia (j := i + 2) o_267_1088 sc (by omega) hL (nI_add i 2) ?_
  refine e_clI (as := [.ref 4, .int (xs (i + 1)), .int (xs (i + 2))]) (rest := []) o_267_1089 rfl rfl (x_okd cl_267_140 ml_140 (Nat.le_of_ble_eq_true rfl) (Nat.le_of_ble_eq_true rfl)) (x_rc0 (ci := 8) (sk_4 hs) mo_140) k ?_
  rintro v h1 ⟨sh1, sc1, k⟩
  refine e_al o_267_1092 rfl ?_
  refine e_al o_267_1093 rfl ?_
  refine e_il o_267_1094 rfl ?_
  refine e_c 1 o_267_1095 rfl ?_
  refine e_bin o_267_1096 rfl ?_
  refine s_ia (j := i + 1) o_267_1097 sc1 (by omega) hL (nI_1 i) ?_
  refine e_al o_267_1098 rfl ?_
  refine e_il o_267_1099 rfl ?_
  refine e_c 2 o_267_1100 rfl ?_
  refine e_bin o_267_1101 rfl ?_
  refine s_ia (j := i + 2) o_267_1102 sc1 (by omega) hL (nI_add i 2) ?_
  refine e_clI (as := [.ref 69, .int (xs (i + 1)), .int (xs (i + 2))]) (rest := [.int v]) o_267_1103 rfl rfl (x_okd cl_267_259 ml_259 (Nat.le_of_ble_eq_true rfl) (Nat.le_of_ble_eq_true rfl)) (x_rc0 (ci := 9) (sk_69 sh1) mo_259) k ?_
  rintro w h2 ⟨hv, k⟩
  exact e_if (P := v = w) o_267_1106 rfl (fun _ => k) (fun z => absurd hv z)
theorem Lw_31 (hs : Sh h) (sc : scr xs L h) (hi : i + 6 ≤ L) (hL : L ≤ 3072) (k : ClI 145 [.ref 4, .int (xs (i + 1))] h (fun v h1 => Sh h1 ∧ scr xs L h1 ∧ ClI 262 [.ref 69, .int (xs (i + 1))] h1 (fun w h2 => v = w ∧ Ev 267 1279 [.ref 0, .ref 4, .ref 69, .int (nI i)] [] h2 Q))) : Ev 267 1111 [.ref 0, .ref 4, .ref 69, .int (nI i)] [] h Q := by
  refine e_al o_267_1111 rfl ?_
  refine e_al o_267_1112 rfl ?_
  refine e_il o_267_1113 rfl ?_
  refine e_c 1 o_267_1114 rfl ?_
  refine e_bin o_267_1115 rfl ?_
  refine s_ia (j := i + 1) o_267_1116 sc (by omega) hL (nI_1 i) ?_
  refine e_clI (as := [.ref 4, .int (xs (i + 1))]) (rest := []) o_267_1117 rfl rfl (x_okd cl_267_145 ml_145 (Nat.le_of_ble_eq_true rfl) (Nat.le_of_ble_eq_true rfl)) (x_rc0 (ci := 8) (sk_4 hs) mo_145) k ?_
  rintro v h1 ⟨sh1, sc1, k⟩
  refine e_al o_267_1120 rfl ?_
  refine e_al o_267_1121 rfl ?_
  refine e_il o_267_1122 rfl ?_
  refine e_c 1 o_267_1123 rfl ?_
  refine e_bin o_267_1124 rfl ?_
  refine s_ia (j := i + 1) o_267_1125 sc1 (by omega) hL (nI_1 i) ?_
  refine e_clI (as := [.ref 69, .int (xs (i + 1))]) (rest := [.int v]) o_267_1126 rfl rfl (x_okd cl_267_262 ml_262 (Nat.le_of_ble_eq_true rfl) (Nat.le_of_ble_eq_true rfl)) (x_rc0 (ci := 9) (sk_69 sh1) mo_262) k ?_
  rintro w h2 ⟨hv, k⟩
  exact e_if (P := v = w) o_267_1129 rfl (fun _ => k) (fun z => absurd hv z)
theorem Lw_32 (hs : Sh h) (sc : scr xs L h) (hi : i + 6 ≤ L) (hL : L ≤ 3072) (k : ClI 148 [.ref 4, .int (xs (i + 1)), .int (xs (i + 2)), .int (xs (i + 3))] h (fun v h1 => Sh h1 ∧ scr xs L h1 ∧ ClI 263 [.ref 69, .int (xs (i + 1)), .int (xs (i + 2)), .int (xs (i + 3))] h1 (fun w h2 => v = w ∧ Ev 267 1279 [.ref 0, .ref 4, .ref 69, .int (nI i)] [] h2 Q))) : Ev 267 1134 [.ref 0, .ref 4, .ref 69, .int (nI i)] [] h Q := by
  refine e_al o_267_1134 rfl ?_
  refine e_al o_267_1135 rfl ?_
  refine e_il o_267_1136 rfl ?_
  refine e_c 1 o_267_1137 rfl ?_
  refine e_bin o_267_1138 rfl ?_
  refine s_ia (j := i + 1) o_267_1139 sc (by omega) hL (nI_1 i) ?_
  refine e_al o_267_1140 rfl ?_
  refine e_il o_267_1141 rfl ?_
  refine e_c 2 o_267_1142 rfl ?_
  refine e_bin o_267_1143 rfl ?_
  refine s_ia (j := i + 2) o_267_1144 sc (by omega) hL (nI_add i 2) ?_
  refine e_al o_267_1145 rfl ?_
  refine e_il o_267_1146 rfl ?_
  refine e_c 3 o_267_1147 rfl ?_
  refine e_bin o_267_1148 rfl ?_
  refine s_ia (j := i + 3) o_267_1149 sc (by omega) hL (nI_add i 3) ?_
  refine e_clI (as := [.ref 4, .int (xs (i + 1)), .int (xs (i + 2)), .int (xs (i + 3))]) (rest := []) o_267_1150 rfl rfl (x_okd cl_267_148 ml_148 (Nat.le_of_ble_eq_true rfl) (Nat.le_of_ble_eq_true rfl)) (x_rc0 (ci := 8) (sk_4 hs) mo_148) k ?_
  rintro v h1 ⟨sh1, sc1, k⟩
  refine e_al o_267_1153 rfl ?_
  refine e_al o_267_1154 rfl ?_
  refine e_il o_267_1155 rfl ?_
  refine e_c 1 o_267_1156 rfl ?_
  refine e_bin o_267_1157 rfl ?_
  refine s_ia (j := i + 1) o_267_1158 sc1 (by omega) hL (nI_1 i) ?_
  refine e_al o_267_1159 rfl ?_
  refine e_il o_267_1160 rfl ?_
  refine e_c 2 o_267_1161 rfl ?_
  refine e_bin o_267_1162 rfl ?_
  refine s_ia (j := i + 2) o_267_1163 sc1 (by omega) hL (nI_add i 2) ?_
  refine e_al o_267_1164 rfl ?_
  refine e_il o_267_1165 rfl ?_
  refine e_c 3 o_267_1166 rfl ?_
  refine e_bin o_267_1167 rfl ?_
  refine s_ia (j := i + 3) o_267_1168 sc1 (by omega) hL (nI_add i 3) ?_
  refine e_clI (as := [.ref 69, .int (xs (i + 1)), .int (xs (i + 2)), .int (xs (i + 3))]) (rest := [.int v]) o_267_1169 rfl rfl (x_okd cl_267_263 ml_263 (Nat.le_of_ble_eq_true rfl) (Nat.le_of_ble_eq_true rfl)) (x_rc0 (ci := 9) (sk_69 sh1) mo_263) k ?_
  rintro w h2 ⟨hv, k⟩
  exact e_if (P := v = w) o_267_1172 rfl (fun _ => k) (fun z => absurd hv z)
theorem Lw_33 (hs : Sh h) (sc : scr xs L h) (hi : i + 6 ≤ L) (hL : L ≤ 3072) (k : ClI 151 [.ref 4, .int (xs (i + 1)), .int (xs (i + 2))] h (fun v h1 => Sh h1 ∧ scr xs L h1 ∧ ClI 254 [.ref 69, .int (xs (i + 1)), .int (xs (i + 2))] h1 (fun w h2 => v = w ∧ Ev 267 1279 [.ref 0, .ref 4, .ref 69, .int (nI i)] [] h2 Q))) : Ev 267 1177 [.ref 0, .ref 4, .ref 69, .int (nI i)] [] h Q := by
  refine e_al o_267_1177 rfl ?_
  refine e_al o_267_1178 rfl ?_
  refine e_il o_267_1179 rfl ?_
  refine e_c 1 o_267_1180 rfl ?_
  refine e_bin o_267_1181 rfl ?_
  refine s_ia (j := i + 1) o_267_1182 sc (by omega) hL (nI_1 i) ?_
  refine e_al o_267_1183 rfl ?_
  refine e_il o_267_1184 rfl ?_
  refine e_c 2 o_267_1185 rfl ?_
  refine e_bin o_267_1186 rfl ?_
  refine s_ia (j := i + 2) o_267_1187 sc (by omega) hL (nI_add i 2) ?_
  refine e_clI (as := [.ref 4, .int (xs (i + 1)), .int (xs (i + 2))]) (rest := []) o_267_1188 rfl rfl (x_okd cl_267_151 ml_151 (Nat.le_of_ble_eq_true rfl) (Nat.le_of_ble_eq_true rfl)) (x_rc0 (ci := 8) (sk_4 hs) mo_151) k ?_
  rintro v h1 ⟨sh1, sc1, k⟩
  refine e_al o_267_1191 rfl ?_
  refine e_al o_267_1192 rfl ?_
  refine e_il o_267_1193 rfl ?_
  refine e_c 1 o_267_1194 rfl ?_
  refine e_bin o_267_1195 rfl ?_
  refine s_ia (j := i + 1) o_267_1196 sc1 (by omega) hL (nI_1 i) ?_
  refine e_al o_267_1197 rfl ?_
  refine e_il o_267_1198 rfl ?_
  refine e_c 2 o_267_1199 rfl ?_
  refine e_bin o_267_1200 rfl ?_
  refine s_ia (j := i + 2) o_267_1201 sc1 (by omega) hL (nI_add i 2) ?_
  refine e_clI (as := [.ref 69, .int (xs (i + 1)), .int (xs (i + 2))]) (rest := [.int v]) o_267_1202 rfl rfl (x_okd cl_267_254 ml_254 (Nat.le_of_ble_eq_true rfl) (Nat.le_of_ble_eq_true rfl)) (x_rc0 (ci := 9) (sk_69 sh1) mo_254) k ?_
  rintro w h2 ⟨hv, k⟩
  exact e_if (P := v = w) o_267_1205 rfl (fun _ => k) (fun z => absurd hv z)
theorem Lw_34 (hs : Sh h) (sc : scr xs L h) (hi : i + 6 ≤ L) (hL : L ≤ 3072) (k : ClI 154 [.ref 4, .int (xs (i + 1))] h (fun v h1 => Sh h1 ∧ scr xs L h1 ∧ ClI 264 [.ref 69, .int (xs (i + 1))] h1 (fun w h2 => v = w ∧ Ev 267 1279 [.ref 0, .ref 4, .ref 69, .int (nI i)] [] h2 Q))) : Ev 267 1210 [.ref 0, .ref 4, .ref 69, .int (nI i)] [] h Q := by
  refine e_al o_267_1210 rfl ?_
  refine e_al o_267_1211 rfl ?_
  refine e_il o_267_1212 rfl ?_
  refine e_c 1 o_267_1213 rfl ?_
  refine e_bin o_267_1214 rfl ?_
  refine s_ia (j := i + 1) o_267_1215 sc (by omega) hL (nI_1 i) ?_
  refine e_clI (as := [.ref 4, .int (xs (i + 1))]) (rest := []) o_267_1216 rfl rfl (x_okd cl_267_154 ml_154 (Nat.le_of_ble_eq_true rfl) (Nat.le_of_ble_eq_true rfl)) (x_rc0 (ci := 8) (sk_4 hs) mo_154) k ?_
  rintro v h1 ⟨sh1, sc1, k⟩
  refine e_al o_267_1219 rfl ?_
  refine e_al o_267_1220 rfl ?_
  refine e_il o_267_1221 rfl ?_
  refine e_c 1 o_267_1222 rfl ?_
  refine e_bin o_267_1223 rfl ?_
  refine s_ia (j := i + 1) o_267_1224 sc1 (by omega) hL (nI_1 i) ?_
  refine e_clI (as := [.ref 69, .int (xs (i + 1))]) (rest := [.int v]) o_267_1225 rfl rfl (x_okd cl_267_264 ml_264 (Nat.le_of_ble_eq_true rfl) (Nat.le_of_ble_eq_true rfl)) (x_rc0 (ci := 9) (sk_69 sh1) mo_264) k ?_
  rintro w h2 ⟨hv, k⟩
  exact e_if (P := v = w) o_267_1228 rfl (fun _ => k) (fun z => absurd hv z)
theorem Lw_35 (hs : Sh h) (sc : scr xs L h) (hi : i + 6 ≤ L) (hL : L ≤ 3072) (k : ClI 155 [.ref 4, .int (xs (i + 1))] h (fun v h1 => Sh h1 ∧ scr xs L h1 ∧ ClI 265 [.ref 69, .int (xs (i + 1))] h1 (fun w h2 => v = w ∧ Ev 267 1279 [.ref 0, .ref 4, .ref 69, .int (nI i)] [] h2 Q))) : Ev 267 1233 [.ref 0, .ref 4, .ref 69, .int (nI i)] [] h Q := by
  refine e_al o_267_1233 rfl ?_
  refine e_al o_267_1234 rfl ?_
  refine e_il o_267_1235 rfl ?_
  refine e_c 1 o_267_1236 rfl ?_
  refine e_bin o_267_1237 rfl ?_
  refine s_ia (j := i + 1) o_267_1238 sc (by omega) hL (nI_1 i) ?_
  refine e_clI (as := [.ref 4, .int (xs (i + 1))]) (rest := []) o_267_1239 rfl rfl (x_okd cl_267_155 ml_155 (Nat.le_of_ble_eq_true rfl) (Nat.le_of_ble_eq_true rfl)) (x_rc0 (ci := 8) (sk_4 hs) mo_155) k ?_
  rintro v h1 ⟨sh1, sc1, k⟩
  refine e_al o_267_1242 rfl ?_
  refine e_al o_267_1243 rfl ?_
  refine e_il o_267_1244 rfl ?_
  refine e_c 1 o_267_1245 rfl ?_
  refine e_bin o_267_1246 rfl ?_
  refine s_ia (j := i + 1) o_267_1247 sc1 (by omega) hL (nI_1 i) ?_
  refine e_clI (as := [.ref 69, .int (xs (i + 1))]) (rest := [.int v]) o_267_1248 rfl rfl (x_okd cl_267_265 ml_265 (Nat.le_of_ble_eq_true rfl) (Nat.le_of_ble_eq_true rfl)) (x_rc0 (ci := 9) (sk_69 sh1) mo_265) k ?_
  rintro w h2 ⟨hv, k⟩
  exact e_if (P := v = w) o_267_1251 rfl (fun _ => k) (fun z => absurd hv z)
theorem Lw_36 (hs : Sh h) (sc : scr xs L h) (hi : i + 6 ≤ L) (hL : L ≤ 3072) (k : ClI 156 [.ref 4, .int (xs (i + 1))] h (fun v h1 => Sh h1 ∧ scr xs L h1 ∧ ClI 266 [.ref 69, .int (xs (i + 1))] h1 (fun w h2 => v = w ∧ Ev 267 1279 [.ref 0, .ref 4, .ref 69, .int (nI i)] [] h2 Q))) : Ev 267 1256 [.ref 0, .ref 4, .ref 69, .int (nI i)] [] h Q := by
  refine e_al o_267_1256 rfl ?_
  refine e_al o_267_1257 rfl ?_
  refine e_il o_267_1258 rfl ?_
  refine e_c 1 o_267_1259 rfl ?_
  refine e_bin o_267_1260 rfl ?_
  refine s_ia (j := i + 1) o_267_1261 sc (by omega) hL (nI_1 i) ?_
  refine e_clI (as := [.ref 4, .int (xs (i + 1))]) (rest := []) o_267_1262 rfl rfl (x_okd cl_267_156 ml_156 (Nat.le_of_ble_eq_true rfl) (Nat.le_of_ble_eq_true rfl)) (x_rc0 (ci := 8) (sk_4 hs) mo_156) k ?_
  rintro v h1 ⟨sh1, sc1, k⟩
  refine e_al o_267_1265 rfl ?_
  refine e_al o_267_1266 rfl ?_
  refine e_il o_267_1267 rfl ?_
  refine e_c 1 o_267_1268 rfl ?_
  refine e_bin o_267_1269 rfl ?_
  refine s_ia (j := i + 1) o_267_1270 sc1 (by omega) hL (nI_1 i) ?_
  refine e_clI (as := [.ref 69, .int (xs (i + 1))]) (rest := [.int v]) o_267_1271 rfl rfl (x_okd cl_267_266 ml_266 (Nat.le_of_ble_eq_true rfl) (Nat.le_of_ble_eq_true rfl)) (x_rc0 (ci := 9) (sk_69 sh1) mo_266) k ?_
  rintro w h2 ⟨hv, k⟩
  exact e_if (P := v = w) o_267_1274 rfl (fun _ => k) (fun z => absurd hv z)
def tgs : List Nat := [196, 259, 282, 295, 308, 331, 364, 387, 410, 443, 492, 505, 528, 551, 584, 607, 630, 663, 686, 719, 742, 791, 824, 857, 880, 903, 936, 979, 1022, 1065, 1078, 1111, 1134, 1177, 1210, 1233, 1256, 1279]
theorem len_6 (hL : L ≤ 3072) (hi : i ≤ 3100) : nI L - 6 < nI i ↔ L < i + 6 := by
  by_cases q : 6 ≤ L
  · have e : nI L - 6 = nI (L - 6) := pk_sub q
    rw [e]
    constructor
    · intro z
      have := (nI_ltI (by omega) (by omega)).mp z
      omega
    · intro z
      exact nI_lt (by omega) (by omega)
  · refine ⟨fun _ => by omega, fun _ => ?_⟩
    have k : ∀ L, L < 6 → nI L - 6 < 0 := by decide +kernel
    exact Int32.lt_of_lt_of_le (k L (by omega)) (nI_le (a := 0) (by omega) (by omega))
theorem Lw_head (sc : scr xs L h) (hL : L ≤ 3072) (hi : i ≤ L) (ke : L < i + 6 → Q (.int 1) h) (kc : i + 6 ≤ L → ∀ p ∈ tgs, Ev 267 p [.ref 0, .ref 4, .ref 69, .int (nI i)] [] h Q) : Ev 267 18 [.ref 0, .ref 4, .ref 69, .int (nI i)] [] h Q := by
  refine e_il o_267_18 rfl ?_
  refine e_al o_267_19 rfl ?_
  refine e_len (n := L) o_267_20 ⟨by rw [sc.1]; decide, by rw [sc.1]; decide⟩ sc.2.1 ?_
  refine e_c 6 o_267_21 rfl ?_
  refine e_bin o_267_23 rfl ?_
  have l6 := len_6 (L := L) (i := i) hL (by omega)
  refine e_if (P := nI L - 6 < nI i) o_267_24 rfl (fun z => ?_) (fun z => ?_)
  · refine e_c 1 o_267_1285 rfl ?_
    exact e_retZ o_267_1286 (by decide) (ke (l6.mp z))
  · have hi6 : i + 6 ≤ L := by
      rcases Nat.lt_or_ge L (i + 6) with c | c
      · exact absurd (l6.mpr c) z
      · exact c
    have kk := kc hi6
    refine e_al o_267_27 rfl ?_
    refine e_il o_267_28 rfl ?_
    refine s_ia (j := i) o_267_29 sc (by omega) hL rfl ?_
    refine e_c 63 o_267_30 rfl ?_
    refine e_bin o_267_32 rfl ?_
    refine e_swc o_267_33 (by decide) ?_
    refine ⟨fun _ => kk 196 (by decide), fun _ => ?_⟩
    refine ⟨fun _ => kk 259 (by decide), fun _ => ?_⟩
    refine ⟨fun _ => kk 282 (by decide), fun _ => ?_⟩
    refine ⟨fun _ => kk 295 (by decide), fun _ => ?_⟩
    refine ⟨fun _ => kk 308 (by decide), fun _ => ?_⟩
    refine ⟨fun _ => kk 331 (by decide), fun _ => ?_⟩
    refine ⟨fun _ => kk 364 (by decide), fun _ => ?_⟩
    refine ⟨fun _ => kk 387 (by decide), fun _ => ?_⟩
    refine ⟨fun _ => kk 410 (by decide), fun _ => ?_⟩
    refine ⟨fun _ => kk 443 (by decide), fun _ => ?_⟩
    refine ⟨fun _ => kk 492 (by decide), fun _ => ?_⟩
    refine ⟨fun _ => kk 505 (by decide), fun _ => ?_⟩
    refine ⟨fun _ => kk 528 (by decide), fun _ => ?_⟩
    refine ⟨fun _ => kk 551 (by decide), fun _ => ?_⟩
    refine ⟨fun _ => kk 584 (by decide), fun _ => ?_⟩
    refine ⟨fun _ => kk 607 (by decide), fun _ => ?_⟩
    refine ⟨fun _ => kk 630 (by decide), fun _ => ?_⟩
    refine ⟨fun _ => kk 663 (by decide), fun _ => ?_⟩
    refine ⟨fun _ => kk 686 (by decide), fun _ => ?_⟩
    refine ⟨fun _ => kk 719 (by decide), fun _ => ?_⟩
    refine ⟨fun _ => kk 742 (by decide), fun _ => ?_⟩
    refine ⟨fun _ => kk 791 (by decide), fun _ => ?_⟩
    refine ⟨fun _ => kk 824 (by decide), fun _ => ?_⟩
    refine ⟨fun _ => kk 857 (by decide), fun _ => ?_⟩
    refine ⟨fun _ => kk 880 (by decide), fun _ => ?_⟩
    refine ⟨fun _ => kk 903 (by decide), fun _ => ?_⟩
    refine ⟨fun _ => kk 936 (by decide), fun _ => ?_⟩
    refine ⟨fun _ => kk 979 (by decide), fun _ => ?_⟩
    refine ⟨fun _ => kk 1022 (by decide), fun _ => ?_⟩
    refine ⟨fun _ => kk 1065 (by decide), fun _ => ?_⟩
    refine ⟨fun _ => kk 1078 (by decide), fun _ => ?_⟩
    refine ⟨fun _ => kk 1111 (by decide), fun _ => ?_⟩
    refine ⟨fun _ => kk 1134 (by decide), fun _ => ?_⟩
    refine ⟨fun _ => kk 1177 (by decide), fun _ => ?_⟩
    refine ⟨fun _ => kk 1210 (by decide), fun _ => ?_⟩
    refine ⟨fun _ => kk 1233 (by decide), fun _ => ?_⟩
    refine ⟨fun _ => kk 1256 (by decide), fun _ => ?_⟩
    exact kk 1279 (by decide)
end LWR
