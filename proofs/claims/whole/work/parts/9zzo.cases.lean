/-! the law's cases: each call answers alike (by program, wip/gen/gcase.py) -/
theorem ol_13 : okV R_law 13 (cNm 10) M_X12_feed 5 := ⟨⟨lwc_2 215 (by decide +kernel) (by decide +kernel), mi_X12_feed, ms_X12_feed, in_X12, mc_X12_feed⟩, by decide +kernel, by decide⟩
theorem ol_17 : okV R_law 17 (cNm 11) M_X13_feed 5 := ⟨⟨lwc_7 13 (by decide +kernel) (by decide +kernel), mi_X13_feed, ms_X13_feed, in_X13, mc_X13_feed⟩, by decide +kernel, by decide⟩
theorem l_c0 {g : GT} {b L i : Nat} {xs : Nat → Int32} {σ : Sg} (hL : L ≤ 3072) (hi : i + 6 ≤ L) (hv : zIV σ) (h : ∀ σ2, zIV σ2 → WL g b L xs 1069 i [] σ2) : WL g b L xs 180 i [] σ := by
  refine l_x dL_law_180 ?_
  refine l_arg (k := 1) hL hi (by decide) dL_law_181 dL_law_182 dL_law_183 dL_law_184 dL_law_185 ?_
  refine l_arg (k := 2) hL hi (by decide) dL_law_186 dL_law_187 dL_law_188 dL_law_189 dL_law_190 ?_
  refine l_arg (k := 3) hL hi (by decide) dL_law_191 dL_law_192 dL_law_193 dL_law_194 dL_law_195 ?_
  refine l_arg (k := 4) hL hi (by decide) dL_law_196 dL_law_197 dL_law_198 dL_law_199 dL_law_200 ?_
  refine l_arg (k := 5) hL hi (by decide) dL_law_201 dL_law_202 dL_law_203 dL_law_204 dL_law_205 ?_
  refine l_call (ci := 10) (o := 1) (As := [(0, (xs (i + 1)).toInt), (0, (xs (i + 2)).toInt), (0, (xs (i + 3)).toInt), (0, (xs (i + 4)).toInt), (0, (xs (i + 5)).toInt)]) (st := []) (by decide) ol_13 rfl rfl (Nat.le_of_ble_eq_true rfl) dL_law_206 (P_feed σ hv) (fun r σ1 h1 => ?_)
  refine l_m dL_law_209 ?_
  refine l_arg (k := 1) hL hi (by decide) dL_law_210 dL_law_211 dL_law_212 dL_law_213 dL_law_214 ?_
  refine l_arg (k := 2) hL hi (by decide) dL_law_215 dL_law_216 dL_law_217 dL_law_218 dL_law_219 ?_
  refine l_arg (k := 3) hL hi (by decide) dL_law_220 dL_law_221 dL_law_222 dL_law_223 dL_law_224 ?_
  refine l_arg (k := 4) hL hi (by decide) dL_law_225 dL_law_226 dL_law_227 dL_law_228 dL_law_229 ?_
  refine l_arg (k := 5) hL hi (by decide) dL_law_230 dL_law_231 dL_law_232 dL_law_233 dL_law_234 ?_
  refine l_call (ci := 11) (o := 92) (As := [(0, (xs (i + 1)).toInt), (0, (xs (i + 2)).toInt), (0, (xs (i + 3)).toInt), (0, (xs (i + 4)).toInt), (0, (xs (i + 5)).toInt)]) (st := [(0, r)]) (by decide) ol_17 rfl rfl (Nat.le_of_ble_eq_true rfl) dL_law_235 h1 (fun r2 σ2 h2 => ?_)
  obtain ⟨e, h3⟩ := h2
  subst e
  refine l_eq (tgt := 1069) dL_law_238 (by decide) ?_
  exact h σ2 h3
theorem ol_18 : okV R_law 18 (cNm 10) M_X12_end 1 := ⟨⟨lwc_2 227 (by decide +kernel) (by decide +kernel), mi_X12_end, ms_X12_end, in_X12, mc_X12_end⟩, by decide +kernel, by decide⟩
theorem ol_22 : okV R_law 22 (cNm 11) M_X13_end 1 := ⟨⟨lwc_7 25 (by decide +kernel) (by decide +kernel), mi_X13_end, ms_X13_end, in_X13, mc_X13_end⟩, by decide +kernel, by decide⟩
theorem l_c1 {g : GT} {b L i : Nat} {xs : Nat → Int32} {σ : Sg} (hL : L ≤ 3072) (hi : i + 6 ≤ L) (hv : zIV σ) (h : ∀ σ2, zIV σ2 → WL g b L xs 1069 i [] σ2) : WL g b L xs 243 i [] σ := by
  refine l_x dL_law_243 ?_
  refine l_arg (k := 1) hL hi (by decide) dL_law_244 dL_law_245 dL_law_246 dL_law_247 dL_law_248 ?_
  refine l_call (ci := 10) (o := 1) (As := [(0, (xs (i + 1)).toInt)]) (st := []) (by decide) ol_18 rfl rfl (Nat.le_of_ble_eq_true rfl) dL_law_249 (P_end σ hv) (fun r σ1 h1 => ?_)
  refine l_m dL_law_252 ?_
  refine l_arg (k := 1) hL hi (by decide) dL_law_253 dL_law_254 dL_law_255 dL_law_256 dL_law_257 ?_
  refine l_call (ci := 11) (o := 92) (As := [(0, (xs (i + 1)).toInt)]) (st := [(0, r)]) (by decide) ol_22 rfl rfl (Nat.le_of_ble_eq_true rfl) dL_law_258 h1 (fun r2 σ2 h2 => ?_)
  obtain ⟨e, h3⟩ := h2
  subst e
  refine l_eq (tgt := 1069) dL_law_261 (by decide) ?_
  exact h σ2 h3
theorem ol_23 : okV R_law 23 (cNm 10) M_X12_town 0 := ⟨⟨lwc_2 231 (by decide +kernel) (by decide +kernel), mi_X12_town, ms_X12_town, in_X12, mc_X12_town⟩, by decide +kernel, by decide⟩
theorem ol_27 : okV R_law 27 (cNm 11) M_X13_town 0 := ⟨⟨lwc_7 29 (by decide +kernel) (by decide +kernel), mi_X13_town, ms_X13_town, in_X13, mc_X13_town⟩, by decide +kernel, by decide⟩
theorem l_c2 {g : GT} {b L i : Nat} {xs : Nat → Int32} {σ : Sg} (hL : L ≤ 3072) (hi : i + 6 ≤ L) (hv : zIV σ) (h : ∀ σ2, zIV σ2 → WL g b L xs 1069 i [] σ2) : WL g b L xs 266 i [] σ := by
  refine l_x dL_law_266 ?_
  refine l_call (ci := 10) (o := 1) (As := []) (st := []) (by decide) ol_23 rfl rfl (Nat.le_of_ble_eq_true rfl) dL_law_267 (P_town σ hv) (fun r σ1 h1 => ?_)
  refine l_m dL_law_270 ?_
  refine l_call (ci := 11) (o := 92) (As := []) (st := [(0, r)]) (by decide) ol_27 rfl rfl (Nat.le_of_ble_eq_true rfl) dL_law_271 h1 (fun r2 σ2 h2 => ?_)
  obtain ⟨e, h3⟩ := h2
  subst e
  refine l_eq (tgt := 1069) dL_law_274 (by decide) ?_
  exact h σ2 h3
theorem ol_28 : okV R_law 28 (cNm 10) M_X12_fault 1 := ⟨⟨lwc_4 16 (by decide +kernel) (by decide +kernel), mi_X12_fault, ms_X12_fault, in_X12, mc_X12_fault⟩, by decide +kernel, by decide⟩
theorem ol_32 : okV R_law 32 (cNm 11) M_X13_fault 1 := ⟨⟨lwc_7 226 (by decide +kernel) (by decide +kernel), mi_X13_fault, ms_X13_fault, in_X13, mc_X13_fault⟩, by decide +kernel, by decide⟩
theorem l_c3 {g : GT} {b L i : Nat} {xs : Nat → Int32} {σ : Sg} (hL : L ≤ 3072) (hi : i + 6 ≤ L) (hv : zIV σ) (h : ∀ σ2, zIV σ2 → WL g b L xs 1069 i [] σ2) : WL g b L xs 279 i [] σ := by
  refine l_x dL_law_279 ?_
  refine l_arg (k := 1) hL hi (by decide) dL_law_280 dL_law_281 dL_law_282 dL_law_283 dL_law_284 ?_
  refine l_call (ci := 10) (o := 1) (As := [(0, (xs (i + 1)).toInt)]) (st := []) (by decide) ol_28 rfl rfl (Nat.le_of_ble_eq_true rfl) dL_law_285 (P_fault σ hv) (fun r σ1 h1 => ?_)
  refine l_m dL_law_288 ?_
  refine l_arg (k := 1) hL hi (by decide) dL_law_289 dL_law_290 dL_law_291 dL_law_292 dL_law_293 ?_
  refine l_call (ci := 11) (o := 92) (As := [(0, (xs (i + 1)).toInt)]) (st := [(0, r)]) (by decide) ol_32 rfl rfl (Nat.le_of_ble_eq_true rfl) dL_law_294 h1 (fun r2 σ2 h2 => ?_)
  obtain ⟨e, h3⟩ := h2
  subst e
  refine l_eq (tgt := 1069) dL_law_297 (by decide) ?_
  exact h σ2 h3
theorem ol_33 : okV R_law 33 (cNm 10) M_X12_has 1 := ⟨⟨lwc_4 20 (by decide +kernel) (by decide +kernel), mi_X12_has, ms_X12_has, in_X12, mc_X12_has⟩, by decide +kernel, by decide⟩
theorem ol_36 : okV R_law 36 (cNm 11) M_X13_has 1 := ⟨⟨lwc_8 6 (by decide +kernel) (by decide +kernel), mi_X13_has, ms_X13_has, in_X13, mc_X13_has⟩, by decide +kernel, by decide⟩
theorem l_c4 {g : GT} {b L i : Nat} {xs : Nat → Int32} {σ : Sg} (hL : L ≤ 3072) (hi : i + 6 ≤ L) (hv : zIV σ) (h : ∀ σ2, zIV σ2 → WL g b L xs 1069 i [] σ2) : WL g b L xs 302 i [] σ := by
  refine l_x dL_law_302 ?_
  refine l_arg (k := 1) hL hi (by decide) dL_law_303 dL_law_304 dL_law_305 dL_law_306 dL_law_307 ?_
  refine l_call (ci := 10) (o := 1) (As := [(0, (xs (i + 1)).toInt)]) (st := []) (by decide) ol_33 rfl rfl (Nat.le_of_ble_eq_true rfl) dL_law_308 (P_has σ hv) (fun r σ1 h1 => ?_)
  refine l_m dL_law_311 ?_
  refine l_arg (k := 1) hL hi (by decide) dL_law_312 dL_law_313 dL_law_314 dL_law_315 dL_law_316 ?_
  refine l_call (ci := 11) (o := 92) (As := [(0, (xs (i + 1)).toInt)]) (st := [(0, r)]) (by decide) ol_36 rfl rfl (Nat.le_of_ble_eq_true rfl) dL_law_317 h1 (fun r2 σ2 h2 => ?_)
  obtain ⟨e, h3⟩ := h2
  subst e
  refine l_eq (tgt := 1069) dL_law_320 (by decide) ?_
  exact h σ2 h3
theorem ol_37 : okV R_law 37 (cNm 10) M_X12_letter 3 := ⟨⟨lwc_4 59 (by decide +kernel) (by decide +kernel), mi_X12_letter, ms_X12_letter, in_X12, mc_X12_letter⟩, by decide +kernel, by decide⟩
theorem ol_41 : okV R_law 41 (cNm 11) M_X13_letter 3 := ⟨⟨lwc_8 49 (by decide +kernel) (by decide +kernel), mi_X13_letter, ms_X13_letter, in_X13, mc_X13_letter⟩, by decide +kernel, by decide⟩
theorem l_c5 {g : GT} {b L i : Nat} {xs : Nat → Int32} {σ : Sg} (hL : L ≤ 3072) (hi : i + 6 ≤ L) (hv : zIV σ) (h : ∀ σ2, zIV σ2 → WL g b L xs 1069 i [] σ2) : WL g b L xs 325 i [] σ := by
  refine l_x dL_law_325 ?_
  refine l_arg (k := 1) hL hi (by decide) dL_law_326 dL_law_327 dL_law_328 dL_law_329 dL_law_330 ?_
  refine l_arg (k := 2) hL hi (by decide) dL_law_331 dL_law_332 dL_law_333 dL_law_334 dL_law_335 ?_
  refine l_arg (k := 3) hL hi (by decide) dL_law_336 dL_law_337 dL_law_338 dL_law_339 dL_law_340 ?_
  refine l_call (ci := 10) (o := 1) (As := [(0, (xs (i + 1)).toInt), (0, (xs (i + 2)).toInt), (0, (xs (i + 3)).toInt)]) (st := []) (by decide) ol_37 rfl rfl (Nat.le_of_ble_eq_true rfl) dL_law_341 (P_letter σ hv) (fun r σ1 h1 => ?_)
  refine l_m dL_law_344 ?_
  refine l_arg (k := 1) hL hi (by decide) dL_law_345 dL_law_346 dL_law_347 dL_law_348 dL_law_349 ?_
  refine l_arg (k := 2) hL hi (by decide) dL_law_350 dL_law_351 dL_law_352 dL_law_353 dL_law_354 ?_
  refine l_arg (k := 3) hL hi (by decide) dL_law_355 dL_law_356 dL_law_357 dL_law_358 dL_law_359 ?_
  refine l_call (ci := 11) (o := 92) (As := [(0, (xs (i + 1)).toInt), (0, (xs (i + 2)).toInt), (0, (xs (i + 3)).toInt)]) (st := [(0, r)]) (by decide) ol_41 rfl rfl (Nat.le_of_ble_eq_true rfl) dL_law_360 h1 (fun r2 σ2 h2 => ?_)
  obtain ⟨e, h3⟩ := h2
  subst e
  refine l_eq (tgt := 1069) dL_law_363 (by decide) ?_
  exact h σ2 h3
theorem ol_42 : okV R_law 42 (cNm 10) M_X12_home 2 := ⟨⟨lwc_4 63 (by decide +kernel) (by decide +kernel), mi_X12_home, ms_X12_home, in_X12, mc_X12_home⟩, by decide +kernel, by decide⟩
theorem ol_46 : okV R_law 46 (cNm 11) M_X13_home 2 := ⟨⟨lwc_8 54 (by decide +kernel) (by decide +kernel), mi_X13_home, ms_X13_home, in_X13, mc_X13_home⟩, by decide +kernel, by decide⟩
theorem l_c6 {g : GT} {b L i : Nat} {xs : Nat → Int32} {σ : Sg} (hL : L ≤ 3072) (hi : i + 6 ≤ L) (hv : zIV σ) (h : ∀ σ2, zIV σ2 → WL g b L xs 1069 i [] σ2) : WL g b L xs 368 i [] σ := by
  refine l_x dL_law_368 ?_
  refine l_arg (k := 1) hL hi (by decide) dL_law_369 dL_law_370 dL_law_371 dL_law_372 dL_law_373 ?_
  refine l_arg (k := 2) hL hi (by decide) dL_law_374 dL_law_375 dL_law_376 dL_law_377 dL_law_378 ?_
  refine l_call (ci := 10) (o := 1) (As := [(0, (xs (i + 1)).toInt), (0, (xs (i + 2)).toInt)]) (st := []) (by decide) ol_42 rfl rfl (Nat.le_of_ble_eq_true rfl) dL_law_379 (P_home σ hv) (fun r σ1 h1 => ?_)
  refine l_m dL_law_382 ?_
  refine l_arg (k := 1) hL hi (by decide) dL_law_383 dL_law_384 dL_law_385 dL_law_386 dL_law_387 ?_
  refine l_arg (k := 2) hL hi (by decide) dL_law_388 dL_law_389 dL_law_390 dL_law_391 dL_law_392 ?_
  refine l_call (ci := 11) (o := 92) (As := [(0, (xs (i + 1)).toInt), (0, (xs (i + 2)).toInt)]) (st := [(0, r)]) (by decide) ol_46 rfl rfl (Nat.le_of_ble_eq_true rfl) dL_law_393 h1 (fun r2 σ2 h2 => ?_)
  obtain ⟨e, h3⟩ := h2
  subst e
  refine l_eq (tgt := 1069) dL_law_396 (by decide) ?_
  exact h σ2 h3
theorem ol_47 : okV R_law 47 (cNm 10) M_X12_child 2 := ⟨⟨lwc_4 71 (by decide +kernel) (by decide +kernel), mi_X12_child, ms_X12_child, in_X12, mc_X12_child⟩, by decide +kernel, by decide⟩
theorem ol_50 : okV R_law 50 (cNm 11) M_X13_child 2 := ⟨⟨lwc_8 62 (by decide +kernel) (by decide +kernel), mi_X13_child, ms_X13_child, in_X13, mc_X13_child⟩, by decide +kernel, by decide⟩
theorem l_c7 {g : GT} {b L i : Nat} {xs : Nat → Int32} {σ : Sg} (hL : L ≤ 3072) (hi : i + 6 ≤ L) (hv : zIV σ) (h : ∀ σ2, zIV σ2 → WL g b L xs 1069 i [] σ2) : WL g b L xs 401 i [] σ := by
  refine l_x dL_law_401 ?_
  refine l_arg (k := 1) hL hi (by decide) dL_law_402 dL_law_403 dL_law_404 dL_law_405 dL_law_406 ?_
  refine l_arg (k := 2) hL hi (by decide) dL_law_407 dL_law_408 dL_law_409 dL_law_410 dL_law_411 ?_
  refine l_call (ci := 10) (o := 1) (As := [(0, (xs (i + 1)).toInt), (0, (xs (i + 2)).toInt)]) (st := []) (by decide) ol_47 rfl rfl (Nat.le_of_ble_eq_true rfl) dL_law_412 (P_child σ hv) (fun r σ1 h1 => ?_)
  refine l_m dL_law_415 ?_
  refine l_arg (k := 1) hL hi (by decide) dL_law_416 dL_law_417 dL_law_418 dL_law_419 dL_law_420 ?_
  refine l_arg (k := 2) hL hi (by decide) dL_law_421 dL_law_422 dL_law_423 dL_law_424 dL_law_425 ?_
  refine l_call (ci := 11) (o := 92) (As := [(0, (xs (i + 1)).toInt), (0, (xs (i + 2)).toInt)]) (st := [(0, r)]) (by decide) ol_50 rfl rfl (Nat.le_of_ble_eq_true rfl) dL_law_426 h1 (fun r2 σ2 h2 => ?_)
  obtain ⟨e, h3⟩ := h2
  subst e
  refine l_eq (tgt := 1069) dL_law_429 (by decide) ?_
  exact h σ2 h3
theorem ol_51 : okV R_law 51 (cNm 10) M_X12_stone 2 := ⟨⟨lwc_4 80 (by decide +kernel) (by decide +kernel), mi_X12_stone, ms_X12_stone, in_X12, mc_X12_stone⟩, by decide +kernel, by decide⟩
theorem ol_54 : okV R_law 54 (cNm 11) M_X13_stone 2 := ⟨⟨lwc_8 74 (by decide +kernel) (by decide +kernel), mi_X13_stone, ms_X13_stone, in_X13, mc_X13_stone⟩, by decide +kernel, by decide⟩
theorem l_c8 {g : GT} {b L i : Nat} {xs : Nat → Int32} {σ : Sg} (hL : L ≤ 3072) (hi : i + 6 ≤ L) (hv : zIV σ) (h : ∀ σ2, zIV σ2 → WL g b L xs 1069 i [] σ2) : WL g b L xs 434 i [] σ := by
  refine l_x dL_law_434 ?_
  refine l_arg (k := 1) hL hi (by decide) dL_law_435 dL_law_436 dL_law_437 dL_law_438 dL_law_439 ?_
  refine l_arg (k := 2) hL hi (by decide) dL_law_440 dL_law_441 dL_law_442 dL_law_443 dL_law_444 ?_
  refine l_call (ci := 10) (o := 1) (As := [(0, (xs (i + 1)).toInt), (0, (xs (i + 2)).toInt)]) (st := []) (by decide) ol_51 rfl rfl (Nat.le_of_ble_eq_true rfl) dL_law_445 (P_stone σ hv) (fun r σ1 h1 => ?_)
  refine l_m dL_law_448 ?_
  refine l_arg (k := 1) hL hi (by decide) dL_law_449 dL_law_450 dL_law_451 dL_law_452 dL_law_453 ?_
  refine l_arg (k := 2) hL hi (by decide) dL_law_454 dL_law_455 dL_law_456 dL_law_457 dL_law_458 ?_
  refine l_call (ci := 11) (o := 92) (As := [(0, (xs (i + 1)).toInt), (0, (xs (i + 2)).toInt)]) (st := [(0, r)]) (by decide) ol_54 rfl rfl (Nat.le_of_ble_eq_true rfl) dL_law_459 h1 (fun r2 σ2 h2 => ?_)
  obtain ⟨e, h3⟩ := h2
  subst e
  refine l_eq (tgt := 1069) dL_law_462 (by decide) ?_
  exact h σ2 h3
theorem ol_55 : okV R_law 55 (cNm 10) M_X12_wall 2 := ⟨⟨lwc_4 107 (by decide +kernel) (by decide +kernel), mi_X12_wall, ms_X12_wall, in_X12, mc_X12_wall⟩, by decide +kernel, by decide⟩
theorem ol_58 : okV R_law 58 (cNm 11) M_X13_wall 2 := ⟨⟨lwc_8 106 (by decide +kernel) (by decide +kernel), mi_X13_wall, ms_X13_wall, in_X13, mc_X13_wall⟩, by decide +kernel, by decide⟩
theorem l_c9 {g : GT} {b L i : Nat} {xs : Nat → Int32} {σ : Sg} (hL : L ≤ 3072) (hi : i + 6 ≤ L) (hv : zIV σ) (h : ∀ σ2, zIV σ2 → WL g b L xs 1069 i [] σ2) : WL g b L xs 467 i [] σ := by
  refine l_x dL_law_467 ?_
  refine l_arg (k := 1) hL hi (by decide) dL_law_468 dL_law_469 dL_law_470 dL_law_471 dL_law_472 ?_
  refine l_arg (k := 2) hL hi (by decide) dL_law_473 dL_law_474 dL_law_475 dL_law_476 dL_law_477 ?_
  refine l_call (ci := 10) (o := 1) (As := [(0, (xs (i + 1)).toInt), (0, (xs (i + 2)).toInt)]) (st := []) (by decide) ol_55 rfl rfl (Nat.le_of_ble_eq_true rfl) dL_law_478 (P_wall σ hv) (fun r σ1 h1 => ?_)
  refine l_m dL_law_481 ?_
  refine l_arg (k := 1) hL hi (by decide) dL_law_482 dL_law_483 dL_law_484 dL_law_485 dL_law_486 ?_
  refine l_arg (k := 2) hL hi (by decide) dL_law_487 dL_law_488 dL_law_489 dL_law_490 dL_law_491 ?_
  refine l_call (ci := 11) (o := 92) (As := [(0, (xs (i + 1)).toInt), (0, (xs (i + 2)).toInt)]) (st := [(0, r)]) (by decide) ol_58 rfl rfl (Nat.le_of_ble_eq_true rfl) dL_law_492 h1 (fun r2 σ2 h2 => ?_)
  obtain ⟨e, h3⟩ := h2
  subst e
  refine l_eq (tgt := 1069) dL_law_495 (by decide) ?_
  exact h σ2 h3
theorem ol_59 : okV R_law 59 (cNm 10) M_X12_at 3 := ⟨⟨lwc_4 116 (by decide +kernel) (by decide +kernel), mi_X12_at, ms_X12_at, in_X12, mc_X12_at⟩, by decide +kernel, by decide⟩
theorem ol_62 : okV R_law 62 (cNm 11) M_X13_at 3 := ⟨⟨lwc_8 114 (by decide +kernel) (by decide +kernel), mi_X13_at, ms_X13_at, in_X13, mc_X13_at⟩, by decide +kernel, by decide⟩
theorem l_c10 {g : GT} {b L i : Nat} {xs : Nat → Int32} {σ : Sg} (hL : L ≤ 3072) (hi : i + 6 ≤ L) (hv : zIV σ) (h : ∀ σ2, zIV σ2 → WL g b L xs 1069 i [] σ2) : WL g b L xs 500 i [] σ := by
  refine l_x dL_law_500 ?_
  refine l_arg (k := 1) hL hi (by decide) dL_law_501 dL_law_502 dL_law_503 dL_law_504 dL_law_505 ?_
  refine l_arg (k := 2) hL hi (by decide) dL_law_506 dL_law_507 dL_law_508 dL_law_509 dL_law_510 ?_
  refine l_arg (k := 3) hL hi (by decide) dL_law_511 dL_law_512 dL_law_513 dL_law_514 dL_law_515 ?_
  refine l_call (ci := 10) (o := 1) (As := [(0, (xs (i + 1)).toInt), (0, (xs (i + 2)).toInt), (0, (xs (i + 3)).toInt)]) (st := []) (by decide) ol_59 rfl rfl (Nat.le_of_ble_eq_true rfl) dL_law_516 (P_at σ hv) (fun r σ1 h1 => ?_)
  refine l_m dL_law_519 ?_
  refine l_arg (k := 1) hL hi (by decide) dL_law_520 dL_law_521 dL_law_522 dL_law_523 dL_law_524 ?_
  refine l_arg (k := 2) hL hi (by decide) dL_law_525 dL_law_526 dL_law_527 dL_law_528 dL_law_529 ?_
  refine l_arg (k := 3) hL hi (by decide) dL_law_530 dL_law_531 dL_law_532 dL_law_533 dL_law_534 ?_
  refine l_call (ci := 11) (o := 92) (As := [(0, (xs (i + 1)).toInt), (0, (xs (i + 2)).toInt), (0, (xs (i + 3)).toInt)]) (st := [(0, r)]) (by decide) ol_62 rfl rfl (Nat.le_of_ble_eq_true rfl) dL_law_535 h1 (fun r2 σ2 h2 => ?_)
  obtain ⟨e, h3⟩ := h2
  subst e
  refine l_eq (tgt := 1069) dL_law_538 (by decide) ?_
  exact h σ2 h3
theorem ol_63 : okV R_law 63 (cNm 10) M_X12_later 2 := ⟨⟨lwc_4 123 (by decide +kernel) (by decide +kernel), mi_X12_later, ms_X12_later, in_X12, mc_X12_later⟩, by decide +kernel, by decide⟩
theorem ol_66 : okV R_law 66 (cNm 11) M_X13_later 2 := ⟨⟨lwc_8 122 (by decide +kernel) (by decide +kernel), mi_X13_later, ms_X13_later, in_X13, mc_X13_later⟩, by decide +kernel, by decide⟩
theorem l_c11 {g : GT} {b L i : Nat} {xs : Nat → Int32} {σ : Sg} (hL : L ≤ 3072) (hi : i + 6 ≤ L) (hv : zIV σ) (h : ∀ σ2, zIV σ2 → WL g b L xs 1069 i [] σ2) : WL g b L xs 543 i [] σ := by
  refine l_x dL_law_543 ?_
  refine l_arg (k := 1) hL hi (by decide) dL_law_544 dL_law_545 dL_law_546 dL_law_547 dL_law_548 ?_
  refine l_arg (k := 2) hL hi (by decide) dL_law_549 dL_law_550 dL_law_551 dL_law_552 dL_law_553 ?_
  refine l_call (ci := 10) (o := 1) (As := [(0, (xs (i + 1)).toInt), (0, (xs (i + 2)).toInt)]) (st := []) (by decide) ol_63 rfl rfl (Nat.le_of_ble_eq_true rfl) dL_law_554 (P_later σ hv) (fun r σ1 h1 => ?_)
  refine l_m dL_law_557 ?_
  refine l_arg (k := 1) hL hi (by decide) dL_law_558 dL_law_559 dL_law_560 dL_law_561 dL_law_562 ?_
  refine l_arg (k := 2) hL hi (by decide) dL_law_563 dL_law_564 dL_law_565 dL_law_566 dL_law_567 ?_
  refine l_call (ci := 11) (o := 92) (As := [(0, (xs (i + 1)).toInt), (0, (xs (i + 2)).toInt)]) (st := [(0, r)]) (by decide) ol_66 rfl rfl (Nat.le_of_ble_eq_true rfl) dL_law_568 h1 (fun r2 σ2 h2 => ?_)
  obtain ⟨e, h3⟩ := h2
  subst e
  refine l_eq (tgt := 1069) dL_law_571 (by decide) ?_
  exact h σ2 h3
theorem ol_67 : okV R_law 67 (cNm 10) M_X12_built 1 := ⟨⟨lwc_5 14 (by decide +kernel) (by decide +kernel), mi_X12_built, ms_X12_built, in_X12, mc_X12_built⟩, by decide +kernel, by decide⟩
theorem ol_70 : okV R_law 70 (cNm 11) M_X13_built 1 := ⟨⟨lwc_8 203 (by decide +kernel) (by decide +kernel), mi_X13_built, ms_X13_built, in_X13, mc_X13_built⟩, by decide +kernel, by decide⟩
theorem l_c12 {g : GT} {b L i : Nat} {xs : Nat → Int32} {σ : Sg} (hL : L ≤ 3072) (hi : i + 6 ≤ L) (hv : zIV σ) (h : ∀ σ2, zIV σ2 → WL g b L xs 1069 i [] σ2) : WL g b L xs 576 i [] σ := by
  refine l_x dL_law_576 ?_
  refine l_arg (k := 1) hL hi (by decide) dL_law_577 dL_law_578 dL_law_579 dL_law_580 dL_law_581 ?_
  refine l_call (ci := 10) (o := 1) (As := [(0, (xs (i + 1)).toInt)]) (st := []) (by decide) ol_67 rfl rfl (Nat.le_of_ble_eq_true rfl) dL_law_582 (P_built σ hv) (fun r σ1 h1 => ?_)
  refine l_m dL_law_585 ?_
  refine l_arg (k := 1) hL hi (by decide) dL_law_586 dL_law_587 dL_law_588 dL_law_589 dL_law_590 ?_
  refine l_call (ci := 11) (o := 92) (As := [(0, (xs (i + 1)).toInt)]) (st := [(0, r)]) (by decide) ol_70 rfl rfl (Nat.le_of_ble_eq_true rfl) dL_law_591 h1 (fun r2 σ2 h2 => ?_)
  obtain ⟨e, h3⟩ := h2
  subst e
  refine l_eq (tgt := 1069) dL_law_594 (by decide) ?_
  exact h σ2 h3
theorem ol_71 : okV R_law 71 (cNm 10) M_X12_down 1 := ⟨⟨lwc_5 22 (by decide +kernel) (by decide +kernel), mi_X12_down, ms_X12_down, in_X12, mc_X12_down⟩, by decide +kernel, by decide⟩
theorem ol_74 : okV R_law 74 (cNm 11) M_X13_down 1 := ⟨⟨lwc_8 207 (by decide +kernel) (by decide +kernel), mi_X13_down, ms_X13_down, in_X13, mc_X13_down⟩, by decide +kernel, by decide⟩
theorem l_c13 {g : GT} {b L i : Nat} {xs : Nat → Int32} {σ : Sg} (hL : L ≤ 3072) (hi : i + 6 ≤ L) (hv : zIV σ) (h : ∀ σ2, zIV σ2 → WL g b L xs 1069 i [] σ2) : WL g b L xs 599 i [] σ := by
  refine l_x dL_law_599 ?_
  refine l_arg (k := 1) hL hi (by decide) dL_law_600 dL_law_601 dL_law_602 dL_law_603 dL_law_604 ?_
  refine l_call (ci := 10) (o := 1) (As := [(0, (xs (i + 1)).toInt)]) (st := []) (by decide) ol_71 rfl rfl (Nat.le_of_ble_eq_true rfl) dL_law_605 (P_down σ hv) (fun r σ1 h1 => ?_)
  refine l_m dL_law_608 ?_
  refine l_arg (k := 1) hL hi (by decide) dL_law_609 dL_law_610 dL_law_611 dL_law_612 dL_law_613 ?_
  refine l_call (ci := 11) (o := 92) (As := [(0, (xs (i + 1)).toInt)]) (st := [(0, r)]) (by decide) ol_74 rfl rfl (Nat.le_of_ble_eq_true rfl) dL_law_614 h1 (fun r2 σ2 h2 => ?_)
  obtain ⟨e, h3⟩ := h2
  subst e
  refine l_eq (tgt := 1069) dL_law_617 (by decide) ?_
  exact h σ2 h3
theorem ol_75 : okV R_law 75 (cNm 10) M_X12_props 1 := ⟨⟨lwc_5 34 (by decide +kernel) (by decide +kernel), mi_X12_props, ms_X12_props, in_X12, mc_X12_props⟩, by decide +kernel, by decide⟩
theorem ol_78 : okV R_law 78 (cNm 11) M_X13_props 1 := ⟨⟨lwc_8 211 (by decide +kernel) (by decide +kernel), mi_X13_props, ms_X13_props, in_X13, mc_X13_props⟩, by decide +kernel, by decide⟩
theorem l_c14 {g : GT} {b L i : Nat} {xs : Nat → Int32} {σ : Sg} (hL : L ≤ 3072) (hi : i + 6 ≤ L) (hv : zIV σ) (h : ∀ σ2, zIV σ2 → WL g b L xs 1069 i [] σ2) : WL g b L xs 622 i [] σ := by
  refine l_x dL_law_622 ?_
  refine l_arg (k := 1) hL hi (by decide) dL_law_623 dL_law_624 dL_law_625 dL_law_626 dL_law_627 ?_
  refine l_call (ci := 10) (o := 1) (As := [(0, (xs (i + 1)).toInt)]) (st := []) (by decide) ol_75 rfl rfl (Nat.le_of_ble_eq_true rfl) dL_law_628 (P_props σ hv) (fun r σ1 h1 => ?_)
  refine l_m dL_law_631 ?_
  refine l_arg (k := 1) hL hi (by decide) dL_law_632 dL_law_633 dL_law_634 dL_law_635 dL_law_636 ?_
  refine l_call (ci := 11) (o := 92) (As := [(0, (xs (i + 1)).toInt)]) (st := [(0, r)]) (by decide) ol_78 rfl rfl (Nat.le_of_ble_eq_true rfl) dL_law_637 h1 (fun r2 σ2 h2 => ?_)
  obtain ⟨e, h3⟩ := h2
  subst e
  refine l_eq (tgt := 1069) dL_law_640 (by decide) ?_
  exact h σ2 h3
theorem ol_79 : okV R_law 79 (cNm 10) M_X12_strongest 2 := ⟨⟨lwc_5 49 (by decide +kernel) (by decide +kernel), mi_X12_strongest, ms_X12_strongest, in_X12, mc_X12_strongest⟩, by decide +kernel, by decide⟩
theorem ol_82 : okV R_law 82 (cNm 11) M_X13_strongest 2 := ⟨⟨lwc_8 219 (by decide +kernel) (by decide +kernel), mi_X13_strongest, ms_X13_strongest, in_X13, mc_X13_strongest⟩, by decide +kernel, by decide⟩
theorem l_c15 {g : GT} {b L i : Nat} {xs : Nat → Int32} {σ : Sg} (hL : L ≤ 3072) (hi : i + 6 ≤ L) (hv : zIV σ) (h : ∀ σ2, zIV σ2 → WL g b L xs 1069 i [] σ2) : WL g b L xs 645 i [] σ := by
  refine l_x dL_law_645 ?_
  refine l_arg (k := 1) hL hi (by decide) dL_law_646 dL_law_647 dL_law_648 dL_law_649 dL_law_650 ?_
  refine l_arg (k := 2) hL hi (by decide) dL_law_651 dL_law_652 dL_law_653 dL_law_654 dL_law_655 ?_
  refine l_call (ci := 10) (o := 1) (As := [(0, (xs (i + 1)).toInt), (0, (xs (i + 2)).toInt)]) (st := []) (by decide) ol_79 rfl rfl (Nat.le_of_ble_eq_true rfl) dL_law_656 (P_strongest σ hv) (fun r σ1 h1 => ?_)
  refine l_m dL_law_659 ?_
  refine l_arg (k := 1) hL hi (by decide) dL_law_660 dL_law_661 dL_law_662 dL_law_663 dL_law_664 ?_
  refine l_arg (k := 2) hL hi (by decide) dL_law_665 dL_law_666 dL_law_667 dL_law_668 dL_law_669 ?_
  refine l_call (ci := 11) (o := 92) (As := [(0, (xs (i + 1)).toInt), (0, (xs (i + 2)).toInt)]) (st := [(0, r)]) (by decide) ol_82 rfl rfl (Nat.le_of_ble_eq_true rfl) dL_law_670 h1 (fun r2 σ2 h2 => ?_)
  obtain ⟨e, h3⟩ := h2
  subst e
  refine l_eq (tgt := 1069) dL_law_673 (by decide) ?_
  exact h σ2 h3
theorem ol_83 : okV R_law 83 (cNm 10) M_X12_order 1 := ⟨⟨lwc_5 64 (by decide +kernel) (by decide +kernel), mi_X12_order, ms_X12_order, in_X12, mc_X12_order⟩, by decide +kernel, by decide⟩
theorem ol_86 : okV R_law 86 (cNm 11) M_X13_order 1 := ⟨⟨lwc_8 223 (by decide +kernel) (by decide +kernel), mi_X13_order, ms_X13_order, in_X13, mc_X13_order⟩, by decide +kernel, by decide⟩
theorem l_c16 {g : GT} {b L i : Nat} {xs : Nat → Int32} {σ : Sg} (hL : L ≤ 3072) (hi : i + 6 ≤ L) (hv : zIV σ) (h : ∀ σ2, zIV σ2 → WL g b L xs 1069 i [] σ2) : WL g b L xs 678 i [] σ := by
  refine l_x dL_law_678 ?_
  refine l_arg (k := 1) hL hi (by decide) dL_law_679 dL_law_680 dL_law_681 dL_law_682 dL_law_683 ?_
  refine l_call (ci := 10) (o := 1) (As := [(0, (xs (i + 1)).toInt)]) (st := []) (by decide) ol_83 rfl rfl (Nat.le_of_ble_eq_true rfl) dL_law_684 (P_order σ hv) (fun r σ1 h1 => ?_)
  refine l_m dL_law_687 ?_
  refine l_arg (k := 1) hL hi (by decide) dL_law_688 dL_law_689 dL_law_690 dL_law_691 dL_law_692 ?_
  refine l_call (ci := 11) (o := 92) (As := [(0, (xs (i + 1)).toInt)]) (st := [(0, r)]) (by decide) ol_86 rfl rfl (Nat.le_of_ble_eq_true rfl) dL_law_693 h1 (fun r2 σ2 h2 => ?_)
  obtain ⟨e, h3⟩ := h2
  subst e
  refine l_eq (tgt := 1069) dL_law_696 (by decide) ?_
  exact h σ2 h3
theorem ol_87 : okV R_law 87 (cNm 10) M_X12_reconcile 2 := ⟨⟨lwc_5 80 (by decide +kernel) (by decide +kernel), mi_X12_reconcile, ms_X12_reconcile, in_X12, mc_X12_reconcile⟩, by decide +kernel, by decide⟩
theorem ol_90 : okV R_law 90 (cNm 11) M_X13_reconcile 2 := ⟨⟨lwc_8 231 (by decide +kernel) (by decide +kernel), mi_X13_reconcile, ms_X13_reconcile, in_X13, mc_X13_reconcile⟩, by decide +kernel, by decide⟩
theorem l_c17 {g : GT} {b L i : Nat} {xs : Nat → Int32} {σ : Sg} (hL : L ≤ 3072) (hi : i + 6 ≤ L) (hv : zIV σ) (h : ∀ σ2, zIV σ2 → WL g b L xs 1069 i [] σ2) : WL g b L xs 701 i [] σ := by
  refine l_x dL_law_701 ?_
  refine l_arg (k := 1) hL hi (by decide) dL_law_702 dL_law_703 dL_law_704 dL_law_705 dL_law_706 ?_
  refine l_arg (k := 2) hL hi (by decide) dL_law_707 dL_law_708 dL_law_709 dL_law_710 dL_law_711 ?_
  refine l_call (ci := 10) (o := 1) (As := [(0, (xs (i + 1)).toInt), (0, (xs (i + 2)).toInt)]) (st := []) (by decide) ol_87 rfl rfl (Nat.le_of_ble_eq_true rfl) dL_law_712 (P_reconcile σ hv) (fun r σ1 h1 => ?_)
  refine l_m dL_law_715 ?_
  refine l_arg (k := 1) hL hi (by decide) dL_law_716 dL_law_717 dL_law_718 dL_law_719 dL_law_720 ?_
  refine l_arg (k := 2) hL hi (by decide) dL_law_721 dL_law_722 dL_law_723 dL_law_724 dL_law_725 ?_
  refine l_call (ci := 11) (o := 92) (As := [(0, (xs (i + 1)).toInt), (0, (xs (i + 2)).toInt)]) (st := [(0, r)]) (by decide) ol_90 rfl rfl (Nat.le_of_ble_eq_true rfl) dL_law_726 h1 (fun r2 σ2 h2 => ?_)
  obtain ⟨e, h3⟩ := h2
  subst e
  refine l_eq (tgt := 1069) dL_law_729 (by decide) ?_
  exact h σ2 h3
theorem ol_91 : okV R_law 91 (cNm 10) M_X12_seams 1 := ⟨⟨lwc_5 84 (by decide +kernel) (by decide +kernel), mi_X12_seams, ms_X12_seams, in_X12, mc_X12_seams⟩, by decide +kernel, by decide⟩
theorem ol_94 : okV R_law 94 (cNm 11) M_X13_seams 1 := ⟨⟨lwc_8 235 (by decide +kernel) (by decide +kernel), mi_X13_seams, ms_X13_seams, in_X13, mc_X13_seams⟩, by decide +kernel, by decide⟩
theorem l_c18 {g : GT} {b L i : Nat} {xs : Nat → Int32} {σ : Sg} (hL : L ≤ 3072) (hi : i + 6 ≤ L) (hv : zIV σ) (h : ∀ σ2, zIV σ2 → WL g b L xs 1069 i [] σ2) : WL g b L xs 734 i [] σ := by
  refine l_x dL_law_734 ?_
  refine l_arg (k := 1) hL hi (by decide) dL_law_735 dL_law_736 dL_law_737 dL_law_738 dL_law_739 ?_
  refine l_call (ci := 10) (o := 1) (As := [(0, (xs (i + 1)).toInt)]) (st := []) (by decide) ol_91 rfl rfl (Nat.le_of_ble_eq_true rfl) dL_law_740 (P_seams σ hv) (fun r σ1 h1 => ?_)
  refine l_m dL_law_743 ?_
  refine l_arg (k := 1) hL hi (by decide) dL_law_744 dL_law_745 dL_law_746 dL_law_747 dL_law_748 ?_
  refine l_call (ci := 11) (o := 92) (As := [(0, (xs (i + 1)).toInt)]) (st := [(0, r)]) (by decide) ol_94 rfl rfl (Nat.le_of_ble_eq_true rfl) dL_law_749 h1 (fun r2 σ2 h2 => ?_)
  obtain ⟨e, h3⟩ := h2
  subst e
  refine l_eq (tgt := 1069) dL_law_752 (by decide) ?_
  exact h σ2 h3
theorem ol_95 : okV R_law 95 (cNm 10) M_X12_homes 1 := ⟨⟨lwc_5 110 (by decide +kernel) (by decide +kernel), mi_X12_homes, ms_X12_homes, in_X12, mc_X12_homes⟩, by decide +kernel, by decide⟩
theorem ol_98 : okV R_law 98 (cNm 11) M_X13_homes 1 := ⟨⟨lwc_9 19 (by decide +kernel) (by decide +kernel), mi_X13_homes, ms_X13_homes, in_X13, mc_X13_homes⟩, by decide +kernel, by decide⟩
theorem l_c19 {g : GT} {b L i : Nat} {xs : Nat → Int32} {σ : Sg} (hL : L ≤ 3072) (hi : i + 6 ≤ L) (hv : zIV σ) (h : ∀ σ2, zIV σ2 → WL g b L xs 1069 i [] σ2) : WL g b L xs 757 i [] σ := by
  refine l_x dL_law_757 ?_
  refine l_arg (k := 1) hL hi (by decide) dL_law_758 dL_law_759 dL_law_760 dL_law_761 dL_law_762 ?_
  refine l_call (ci := 10) (o := 1) (As := [(0, (xs (i + 1)).toInt)]) (st := []) (by decide) ol_95 rfl rfl (Nat.le_of_ble_eq_true rfl) dL_law_763 (P_homes σ hv) (fun r σ1 h1 => ?_)
  refine l_m dL_law_766 ?_
  refine l_arg (k := 1) hL hi (by decide) dL_law_767 dL_law_768 dL_law_769 dL_law_770 dL_law_771 ?_
  refine l_call (ci := 11) (o := 92) (As := [(0, (xs (i + 1)).toInt)]) (st := [(0, r)]) (by decide) ol_98 rfl rfl (Nat.le_of_ble_eq_true rfl) dL_law_772 h1 (fun r2 σ2 h2 => ?_)
  obtain ⟨e, h3⟩ := h2
  subst e
  refine l_eq (tgt := 1069) dL_law_775 (by decide) ?_
  exact h σ2 h3
theorem ol_99 : okV R_law 99 (cNm 10) M_X12_pulling 1 := ⟨⟨lwc_5 124 (by decide +kernel) (by decide +kernel), mi_X12_pulling, ms_X12_pulling, in_X12, mc_X12_pulling⟩, by decide +kernel, by decide⟩
theorem ol_102 : okV R_law 102 (cNm 11) M_X13_pulling 1 := ⟨⟨lwc_9 24 (by decide +kernel) (by decide +kernel), mi_X13_pulling, ms_X13_pulling, in_X13, mc_X13_pulling⟩, by decide +kernel, by decide⟩
theorem l_c20 {g : GT} {b L i : Nat} {xs : Nat → Int32} {σ : Sg} (hL : L ≤ 3072) (hi : i + 6 ≤ L) (hv : zIV σ) (h : ∀ σ2, zIV σ2 → WL g b L xs 1069 i [] σ2) : WL g b L xs 780 i [] σ := by
  refine l_x dL_law_780 ?_
  refine l_arg (k := 1) hL hi (by decide) dL_law_781 dL_law_782 dL_law_783 dL_law_784 dL_law_785 ?_
  refine l_call (ci := 10) (o := 1) (As := [(0, (xs (i + 1)).toInt)]) (st := []) (by decide) ol_99 rfl rfl (Nat.le_of_ble_eq_true rfl) dL_law_786 (P_pulling σ hv) (fun r σ1 h1 => ?_)
  refine l_m dL_law_789 ?_
  refine l_arg (k := 1) hL hi (by decide) dL_law_790 dL_law_791 dL_law_792 dL_law_793 dL_law_794 ?_
  refine l_call (ci := 11) (o := 92) (As := [(0, (xs (i + 1)).toInt)]) (st := [(0, r)]) (by decide) ol_102 rfl rfl (Nat.le_of_ble_eq_true rfl) dL_law_795 h1 (fun r2 σ2 h2 => ?_)
  obtain ⟨e, h3⟩ := h2
  subst e
  refine l_eq (tgt := 1069) dL_law_798 (by decide) ?_
  exact h σ2 h3
theorem ol_103 : okV R_law 103 (cNm 10) M_X12_years 1 := ⟨⟨lwc_5 138 (by decide +kernel) (by decide +kernel), mi_X12_years, ms_X12_years, in_X12, mc_X12_years⟩, by decide +kernel, by decide⟩
theorem ol_106 : okV R_law 106 (cNm 11) M_X13_years 1 := ⟨⟨lwc_9 32 (by decide +kernel) (by decide +kernel), mi_X13_years, ms_X13_years, in_X13, mc_X13_years⟩, by decide +kernel, by decide⟩
theorem l_c21 {g : GT} {b L i : Nat} {xs : Nat → Int32} {σ : Sg} (hL : L ≤ 3072) (hi : i + 6 ≤ L) (hv : zIV σ) (h : ∀ σ2, zIV σ2 → WL g b L xs 1069 i [] σ2) : WL g b L xs 803 i [] σ := by
  refine l_x dL_law_803 ?_
  refine l_arg (k := 1) hL hi (by decide) dL_law_804 dL_law_805 dL_law_806 dL_law_807 dL_law_808 ?_
  refine l_call (ci := 10) (o := 1) (As := [(0, (xs (i + 1)).toInt)]) (st := []) (by decide) ol_103 rfl rfl (Nat.le_of_ble_eq_true rfl) dL_law_809 (P_years σ hv) (fun r σ1 h1 => ?_)
  refine l_m dL_law_812 ?_
  refine l_arg (k := 1) hL hi (by decide) dL_law_813 dL_law_814 dL_law_815 dL_law_816 dL_law_817 ?_
  refine l_call (ci := 11) (o := 92) (As := [(0, (xs (i + 1)).toInt)]) (st := [(0, r)]) (by decide) ol_106 rfl rfl (Nat.le_of_ble_eq_true rfl) dL_law_818 h1 (fun r2 σ2 h2 => ?_)
  obtain ⟨e, h3⟩ := h2
  subst e
  refine l_eq (tgt := 1069) dL_law_821 (by decide) ?_
  exact h σ2 h3
theorem ol_107 : okV R_law 107 (cNm 10) M_X12_chance 1 := ⟨⟨lwc_5 153 (by decide +kernel) (by decide +kernel), mi_X12_chance, ms_X12_chance, in_X12, mc_X12_chance⟩, by decide +kernel, by decide⟩
theorem ol_110 : okV R_law 110 (cNm 11) M_X13_chance 1 := ⟨⟨lwc_9 40 (by decide +kernel) (by decide +kernel), mi_X13_chance, ms_X13_chance, in_X13, mc_X13_chance⟩, by decide +kernel, by decide⟩
theorem l_c22 {g : GT} {b L i : Nat} {xs : Nat → Int32} {σ : Sg} (hL : L ≤ 3072) (hi : i + 6 ≤ L) (hv : zIV σ) (h : ∀ σ2, zIV σ2 → WL g b L xs 1069 i [] σ2) : WL g b L xs 826 i [] σ := by
  refine l_x dL_law_826 ?_
  refine l_arg (k := 1) hL hi (by decide) dL_law_827 dL_law_828 dL_law_829 dL_law_830 dL_law_831 ?_
  refine l_call (ci := 10) (o := 1) (As := [(0, (xs (i + 1)).toInt)]) (st := []) (by decide) ol_107 rfl rfl (Nat.le_of_ble_eq_true rfl) dL_law_832 (P_chance σ hv) (fun r σ1 h1 => ?_)
  refine l_m dL_law_835 ?_
  refine l_arg (k := 1) hL hi (by decide) dL_law_836 dL_law_837 dL_law_838 dL_law_839 dL_law_840 ?_
  refine l_call (ci := 11) (o := 92) (As := [(0, (xs (i + 1)).toInt)]) (st := [(0, r)]) (by decide) ol_110 rfl rfl (Nat.le_of_ble_eq_true rfl) dL_law_841 h1 (fun r2 σ2 h2 => ?_)
  obtain ⟨e, h3⟩ := h2
  subst e
  refine l_eq (tgt := 1069) dL_law_844 (by decide) ?_
  exact h σ2 h3
theorem ol_111 : okV R_law 111 (cNm 10) M_X12_go 2 := ⟨⟨lwc_5 164 (by decide +kernel) (by decide +kernel), mi_X12_go, ms_X12_go, in_X12, mc_X12_go⟩, by decide +kernel, by decide⟩
theorem ol_115 : okV R_law 115 (cNm 11) M_X13_go 2 := ⟨⟨lwc_9 52 (by decide +kernel) (by decide +kernel), mi_X13_go, ms_X13_go, in_X13, mc_X13_go⟩, by decide +kernel, by decide⟩
theorem l_c23 {g : GT} {b L i : Nat} {xs : Nat → Int32} {σ : Sg} (hL : L ≤ 3072) (hi : i + 6 ≤ L) (hv : zIV σ) (h : ∀ σ2, zIV σ2 → WL g b L xs 1069 i [] σ2) : WL g b L xs 849 i [] σ := by
  refine l_x dL_law_849 ?_
  refine l_arg (k := 1) hL hi (by decide) dL_law_850 dL_law_851 dL_law_852 dL_law_853 dL_law_854 ?_
  refine l_arg (k := 2) hL hi (by decide) dL_law_855 dL_law_856 dL_law_857 dL_law_858 dL_law_859 ?_
  refine l_call (ci := 10) (o := 1) (As := [(0, (xs (i + 1)).toInt), (0, (xs (i + 2)).toInt)]) (st := []) (by decide) ol_111 rfl rfl (Nat.le_of_ble_eq_true rfl) dL_law_860 (P_go σ hv) (fun r σ1 h1 => ?_)
  refine l_m dL_law_863 ?_
  refine l_arg (k := 1) hL hi (by decide) dL_law_864 dL_law_865 dL_law_866 dL_law_867 dL_law_868 ?_
  refine l_arg (k := 2) hL hi (by decide) dL_law_869 dL_law_870 dL_law_871 dL_law_872 dL_law_873 ?_
  refine l_call (ci := 11) (o := 92) (As := [(0, (xs (i + 1)).toInt), (0, (xs (i + 2)).toInt)]) (st := [(0, r)]) (by decide) ol_115 rfl rfl (Nat.le_of_ble_eq_true rfl) dL_law_874 h1 (fun r2 σ2 h2 => ?_)
  obtain ⟨e, h3⟩ := h2
  subst e
  refine l_eq (tgt := 1069) dL_law_877 (by decide) ?_
  exact h σ2 h3
theorem ol_116 : okV R_law 116 (cNm 10) M_X12_pull 1 := ⟨⟨lwc_5 168 (by decide +kernel) (by decide +kernel), mi_X12_pull, ms_X12_pull, in_X12, mc_X12_pull⟩, by decide +kernel, by decide⟩
theorem ol_119 : okV R_law 119 (cNm 11) M_X13_pull 1 := ⟨⟨lwc_9 56 (by decide +kernel) (by decide +kernel), mi_X13_pull, ms_X13_pull, in_X13, mc_X13_pull⟩, by decide +kernel, by decide⟩
theorem l_c24 {g : GT} {b L i : Nat} {xs : Nat → Int32} {σ : Sg} (hL : L ≤ 3072) (hi : i + 6 ≤ L) (hv : zIV σ) (h : ∀ σ2, zIV σ2 → WL g b L xs 1069 i [] σ2) : WL g b L xs 882 i [] σ := by
  refine l_x dL_law_882 ?_
  refine l_arg (k := 1) hL hi (by decide) dL_law_883 dL_law_884 dL_law_885 dL_law_886 dL_law_887 ?_
  refine l_call (ci := 10) (o := 1) (As := [(0, (xs (i + 1)).toInt)]) (st := []) (by decide) ol_116 rfl rfl (Nat.le_of_ble_eq_true rfl) dL_law_888 (P_pull σ hv) (fun r σ1 h1 => ?_)
  refine l_m dL_law_891 ?_
  refine l_arg (k := 1) hL hi (by decide) dL_law_892 dL_law_893 dL_law_894 dL_law_895 dL_law_896 ?_
  refine l_call (ci := 11) (o := 92) (As := [(0, (xs (i + 1)).toInt)]) (st := [(0, r)]) (by decide) ol_119 rfl rfl (Nat.le_of_ble_eq_true rfl) dL_law_897 h1 (fun r2 σ2 h2 => ?_)
  obtain ⟨e, h3⟩ := h2
  subst e
  refine l_eq (tgt := 1069) dL_law_900 (by decide) ?_
  exact h σ2 h3
theorem ol_120 : okV R_law 120 (cNm 10) M_X12_peace 1 := ⟨⟨lwc_5 173 (by decide +kernel) (by decide +kernel), mi_X12_peace, ms_X12_peace, in_X12, mc_X12_peace⟩, by decide +kernel, by decide⟩
theorem ol_123 : okV R_law 123 (cNm 11) M_X13_peace 1 := ⟨⟨lwc_9 60 (by decide +kernel) (by decide +kernel), mi_X13_peace, ms_X13_peace, in_X13, mc_X13_peace⟩, by decide +kernel, by decide⟩
theorem l_c25 {g : GT} {b L i : Nat} {xs : Nat → Int32} {σ : Sg} (hL : L ≤ 3072) (hi : i + 6 ≤ L) (hv : zIV σ) (h : ∀ σ2, zIV σ2 → WL g b L xs 1069 i [] σ2) : WL g b L xs 905 i [] σ := by
  refine l_x dL_law_905 ?_
  refine l_arg (k := 1) hL hi (by decide) dL_law_906 dL_law_907 dL_law_908 dL_law_909 dL_law_910 ?_
  refine l_call (ci := 10) (o := 1) (As := [(0, (xs (i + 1)).toInt)]) (st := []) (by decide) ol_120 rfl rfl (Nat.le_of_ble_eq_true rfl) dL_law_911 (P_peace σ hv) (fun r σ1 h1 => ?_)
  refine l_m dL_law_914 ?_
  refine l_arg (k := 1) hL hi (by decide) dL_law_915 dL_law_916 dL_law_917 dL_law_918 dL_law_919 ?_
  refine l_call (ci := 11) (o := 92) (As := [(0, (xs (i + 1)).toInt)]) (st := [(0, r)]) (by decide) ol_123 rfl rfl (Nat.le_of_ble_eq_true rfl) dL_law_920 h1 (fun r2 σ2 h2 => ?_)
  obtain ⟨e, h3⟩ := h2
  subst e
  refine l_eq (tgt := 1069) dL_law_923 (by decide) ?_
  exact h σ2 h3
theorem ol_124 : okV R_law 124 (cNm 10) M_X12_undo 0 := ⟨⟨lwc_5 177 (by decide +kernel) (by decide +kernel), mi_X12_undo, ms_X12_undo, in_X12, mc_X12_undo⟩, by decide +kernel, by decide⟩
theorem ol_128 : okV R_law 128 (cNm 11) M_X13_undo 0 := ⟨⟨lwc_7 234 (by decide +kernel) (by decide +kernel), mi_X13_undo, ms_X13_undo, in_X13, mc_X13_undo⟩, by decide +kernel, by decide⟩
theorem l_c26 {g : GT} {b L i : Nat} {xs : Nat → Int32} {σ : Sg} (hL : L ≤ 3072) (hi : i + 6 ≤ L) (hv : zIV σ) (h : ∀ σ2, zIV σ2 → WL g b L xs 1069 i [] σ2) : WL g b L xs 928 i [] σ := by
  refine l_x dL_law_928 ?_
  refine l_call (ci := 10) (o := 1) (As := []) (st := []) (by decide) ol_124 rfl rfl (Nat.le_of_ble_eq_true rfl) dL_law_929 (P_undo σ hv) (fun r σ1 h1 => ?_)
  refine l_m dL_law_932 ?_
  refine l_call (ci := 11) (o := 92) (As := []) (st := [(0, r)]) (by decide) ol_128 rfl rfl (Nat.le_of_ble_eq_true rfl) dL_law_933 h1 (fun r2 σ2 h2 => ?_)
  obtain ⟨e, h3⟩ := h2
  subst e
  refine l_eq (tgt := 1069) dL_law_936 (by decide) ?_
  exact h σ2 h3
theorem ol_129 : okV R_law 129 (cNm 10) M_X12_seed 1 := ⟨⟨lwc_5 187 (by decide +kernel) (by decide +kernel), mi_X12_seed, ms_X12_seed, in_X12, mc_X12_seed⟩, by decide +kernel, by decide⟩
theorem ol_132 : okV R_law 132 (cNm 11) M_X13_seed 1 := ⟨⟨lwc_9 64 (by decide +kernel) (by decide +kernel), mi_X13_seed, ms_X13_seed, in_X13, mc_X13_seed⟩, by decide +kernel, by decide⟩
theorem l_c27 {g : GT} {b L i : Nat} {xs : Nat → Int32} {σ : Sg} (hL : L ≤ 3072) (hi : i + 6 ≤ L) (hv : zIV σ) (h : ∀ σ2, zIV σ2 → WL g b L xs 1069 i [] σ2) : WL g b L xs 941 i [] σ := by
  refine l_x dL_law_941 ?_
  refine l_arg (k := 1) hL hi (by decide) dL_law_942 dL_law_943 dL_law_944 dL_law_945 dL_law_946 ?_
  refine l_call (ci := 10) (o := 1) (As := [(0, (xs (i + 1)).toInt)]) (st := []) (by decide) ol_129 rfl rfl (Nat.le_of_ble_eq_true rfl) dL_law_947 (P_seed (toI_in _) σ hv) (fun r σ1 h1 => ?_)
  refine l_m dL_law_950 ?_
  refine l_arg (k := 1) hL hi (by decide) dL_law_951 dL_law_952 dL_law_953 dL_law_954 dL_law_955 ?_
  refine l_call (ci := 11) (o := 92) (As := [(0, (xs (i + 1)).toInt)]) (st := [(0, r)]) (by decide) ol_132 rfl rfl (Nat.le_of_ble_eq_true rfl) dL_law_956 h1 (fun r2 σ2 h2 => ?_)
  obtain ⟨e, h3⟩ := h2
  subst e
  refine l_eq (tgt := 1069) dL_law_959 (by decide) ?_
  exact h σ2 h3
theorem ol_133 : okV R_law 133 (cNm 10) M_X12_kept 2 := ⟨⟨lwc_5 191 (by decide +kernel) (by decide +kernel), mi_X12_kept, ms_X12_kept, in_X12, mc_X12_kept⟩, by decide +kernel, by decide⟩
theorem ol_136 : okV R_law 136 (cNm 11) M_X13_kept 2 := ⟨⟨lwc_9 68 (by decide +kernel) (by decide +kernel), mi_X13_kept, ms_X13_kept, in_X13, mc_X13_kept⟩, by decide +kernel, by decide⟩
theorem l_c28 {g : GT} {b L i : Nat} {xs : Nat → Int32} {σ : Sg} (hL : L ≤ 3072) (hi : i + 6 ≤ L) (hv : zIV σ) (h : ∀ σ2, zIV σ2 → WL g b L xs 1069 i [] σ2) : WL g b L xs 964 i [] σ := by
  refine l_x dL_law_964 ?_
  refine l_arg (k := 1) hL hi (by decide) dL_law_965 dL_law_966 dL_law_967 dL_law_968 dL_law_969 ?_
  refine l_arg (k := 2) hL hi (by decide) dL_law_970 dL_law_971 dL_law_972 dL_law_973 dL_law_974 ?_
  refine l_call (ci := 10) (o := 1) (As := [(0, (xs (i + 1)).toInt), (0, (xs (i + 2)).toInt)]) (st := []) (by decide) ol_133 rfl rfl (Nat.le_of_ble_eq_true rfl) dL_law_975 (P_kept σ hv) (fun r σ1 h1 => ?_)
  refine l_m dL_law_978 ?_
  refine l_arg (k := 1) hL hi (by decide) dL_law_979 dL_law_980 dL_law_981 dL_law_982 dL_law_983 ?_
  refine l_arg (k := 2) hL hi (by decide) dL_law_984 dL_law_985 dL_law_986 dL_law_987 dL_law_988 ?_
  refine l_call (ci := 11) (o := 92) (As := [(0, (xs (i + 1)).toInt), (0, (xs (i + 2)).toInt)]) (st := [(0, r)]) (by decide) ol_136 rfl rfl (Nat.le_of_ble_eq_true rfl) dL_law_989 h1 (fun r2 σ2 h2 => ?_)
  obtain ⟨e, h3⟩ := h2
  subst e
  refine l_eq (tgt := 1069) dL_law_992 (by decide) ?_
  exact h σ2 h3
theorem ol_137 : okV R_law 137 (cNm 10) M_X12_image 0 := ⟨⟨lwc_5 195 (by decide +kernel) (by decide +kernel), mi_X12_image, ms_X12_image, in_X12, mc_X12_image⟩, by decide +kernel, by decide⟩
theorem ol_140 : okV R_law 140 (cNm 11) M_X13_image 0 := ⟨⟨lwc_9 72 (by decide +kernel) (by decide +kernel), mi_X13_image, ms_X13_image, in_X13, mc_X13_image⟩, by decide +kernel, by decide⟩
theorem l_c29 {g : GT} {b L i : Nat} {xs : Nat → Int32} {σ : Sg} (hL : L ≤ 3072) (hi : i + 6 ≤ L) (hv : zIV σ) (h : ∀ σ2, zIV σ2 → WL g b L xs 1069 i [] σ2) : WL g b L xs 997 i [] σ := by
  refine l_x dL_law_997 ?_
  refine l_call (ci := 10) (o := 1) (As := []) (st := []) (by decide) ol_137 rfl rfl (Nat.le_of_ble_eq_true rfl) dL_law_998 (P_image1 σ hv) (fun r σ1 h1 => ?_)
  refine l_m dL_law_1001 ?_
  refine l_call (ci := 11) (o := 92) (As := []) (st := [(0, r)]) (by decide) ol_140 rfl rfl (Nat.le_of_ble_eq_true rfl) dL_law_1002 h1 (fun r2 σ2 h2 => ?_)
  obtain ⟨e, h3⟩ := h2
  subst e
  refine l_eq (tgt := 1069) dL_law_1005 (by decide) ?_
  exact h σ2 h3
theorem ol_141 : okV R_law 141 (cNm 10) M_X12_octet 1 := ⟨⟨lwc_5 216 (by decide +kernel) (by decide +kernel), mi_X12_octet, ms_X12_octet, in_X12, mc_X12_octet⟩, by decide +kernel, by decide⟩
theorem ol_144 : okV R_law 144 (cNm 11) M_X13_octet 1 := ⟨⟨lwc_9 84 (by decide +kernel) (by decide +kernel), mi_X13_octet, ms_X13_octet, in_X13, mc_X13_octet⟩, by decide +kernel, by decide⟩
theorem l_c30 {g : GT} {b L i : Nat} {xs : Nat → Int32} {σ : Sg} (hL : L ≤ 3072) (hi : i + 6 ≤ L) (hv : zIV σ) (h : ∀ σ2, zIV σ2 → WL g b L xs 1069 i [] σ2) : WL g b L xs 1010 i [] σ := by
  refine l_x dL_law_1010 ?_
  refine l_arg (k := 1) hL hi (by decide) dL_law_1011 dL_law_1012 dL_law_1013 dL_law_1014 dL_law_1015 ?_
  refine l_call (ci := 10) (o := 1) (As := [(0, (xs (i + 1)).toInt)]) (st := []) (by decide) ol_141 rfl rfl (Nat.le_of_ble_eq_true rfl) dL_law_1016 (P_octet σ hv) (fun r σ1 h1 => ?_)
  refine l_m dL_law_1019 ?_
  refine l_arg (k := 1) hL hi (by decide) dL_law_1020 dL_law_1021 dL_law_1022 dL_law_1023 dL_law_1024 ?_
  refine l_call (ci := 11) (o := 92) (As := [(0, (xs (i + 1)).toInt)]) (st := [(0, r)]) (by decide) ol_144 rfl rfl (Nat.le_of_ble_eq_true rfl) dL_law_1025 h1 (fun r2 σ2 h2 => ?_)
  obtain ⟨e, h3⟩ := h2
  subst e
  refine l_eq (tgt := 1069) dL_law_1028 (by decide) ?_
  exact h σ2 h3
theorem ol_145 : okV R_law 145 (cNm 10) M_X12_on 0 := ⟨⟨lwc_5 220 (by decide +kernel) (by decide +kernel), mi_X12_on, ms_X12_on, in_X12, mc_X12_on⟩, by decide +kernel, by decide⟩
theorem ol_148 : okV R_law 148 (cNm 11) M_X13_on 0 := ⟨⟨lwc_9 88 (by decide +kernel) (by decide +kernel), mi_X13_on, ms_X13_on, in_X13, mc_X13_on⟩, by decide +kernel, by decide⟩
theorem l_c31 {g : GT} {b L i : Nat} {xs : Nat → Int32} {σ : Sg} (hL : L ≤ 3072) (hi : i + 6 ≤ L) (hv : zIV σ) (h : ∀ σ2, zIV σ2 → WL g b L xs 1069 i [] σ2) : WL g b L xs 1033 i [] σ := by
  refine l_x dL_law_1033 ?_
  refine l_call (ci := 10) (o := 1) (As := []) (st := []) (by decide) ol_145 rfl rfl (Nat.le_of_ble_eq_true rfl) dL_law_1034 (P_on σ hv) (fun r σ1 h1 => ?_)
  refine l_m dL_law_1037 ?_
  refine l_call (ci := 11) (o := 92) (As := []) (st := [(0, r)]) (by decide) ol_148 rfl rfl (Nat.le_of_ble_eq_true rfl) dL_law_1038 h1 (fun r2 σ2 h2 => ?_)
  obtain ⟨e, h3⟩ := h2
  subst e
  refine l_eq (tgt := 1069) dL_law_1041 (by decide) ?_
  exact h σ2 h3
theorem ol_149 : okV R_law 149 (cNm 10) M_X12_status 1 := ⟨⟨lwc_6 5 (by decide +kernel) (by decide +kernel), mi_X12_status, ms_X12_status, in_X12, mc_X12_status⟩, by decide +kernel, by decide⟩
theorem ol_152 : okV R_law 152 (cNm 11) M_X13_status 1 := ⟨⟨lwc_7 230 (by decide +kernel) (by decide +kernel), mi_X13_status, ms_X13_status, in_X13, mc_X13_status⟩, by decide +kernel, by decide⟩
theorem l_c32 {g : GT} {b L i : Nat} {xs : Nat → Int32} {σ : Sg} (hL : L ≤ 3072) (hi : i + 6 ≤ L) (hv : zIV σ) (h : ∀ σ2, zIV σ2 → WL g b L xs 1069 i [] σ2) : WL g b L xs 1046 i [] σ := by
  refine l_x dL_law_1046 ?_
  refine l_arg (k := 1) hL hi (by decide) dL_law_1047 dL_law_1048 dL_law_1049 dL_law_1050 dL_law_1051 ?_
  refine l_call (ci := 10) (o := 1) (As := [(0, (xs (i + 1)).toInt)]) (st := []) (by decide) ol_149 rfl rfl (Nat.le_of_ble_eq_true rfl) dL_law_1052 (P_status σ hv) (fun r σ1 h1 => ?_)
  refine l_m dL_law_1055 ?_
  refine l_arg (k := 1) hL hi (by decide) dL_law_1056 dL_law_1057 dL_law_1058 dL_law_1059 dL_law_1060 ?_
  refine l_call (ci := 11) (o := 92) (As := [(0, (xs (i + 1)).toInt)]) (st := [(0, r)]) (by decide) ol_152 rfl rfl (Nat.le_of_ble_eq_true rfl) dL_law_1061 h1 (fun r2 σ2 h2 => ?_)
  obtain ⟨e, h3⟩ := h2
  subst e
  refine l_eq (tgt := 1069) dL_law_1064 (by decide) ?_
  exact h σ2 h3
theorem l_body {g : GT} {b L i : Nat} {xs : Nat → Int32} {σ : Sg} (hL : L ≤ 3072) (hi : i + 6 ≤ L) (hv : zIV σ) (h : ∀ σ2, zIV σ2 → WL g b L xs 1069 i [] σ2) : WL g b L xs 27 i [] σ := by
  refine l_switch hL hi (fun v => ⟨fun k hk _ => ?_, fun _ => h σ hv⟩)
  match k, hk with
  | 0, _ => exact ⟨180, rfl, l_c0 hL hi hv h⟩
  | 1, _ => exact ⟨243, rfl, l_c1 hL hi hv h⟩
  | 2, _ => exact ⟨266, rfl, l_c2 hL hi hv h⟩
  | 3, _ => exact ⟨279, rfl, l_c3 hL hi hv h⟩
  | 4, _ => exact ⟨302, rfl, l_c4 hL hi hv h⟩
  | 5, _ => exact ⟨325, rfl, l_c5 hL hi hv h⟩
  | 6, _ => exact ⟨368, rfl, l_c6 hL hi hv h⟩
  | 7, _ => exact ⟨401, rfl, l_c7 hL hi hv h⟩
  | 8, _ => exact ⟨434, rfl, l_c8 hL hi hv h⟩
  | 9, _ => exact ⟨467, rfl, l_c9 hL hi hv h⟩
  | 10, _ => exact ⟨500, rfl, l_c10 hL hi hv h⟩
  | 11, _ => exact ⟨543, rfl, l_c11 hL hi hv h⟩
  | 12, _ => exact ⟨576, rfl, l_c12 hL hi hv h⟩
  | 13, _ => exact ⟨599, rfl, l_c13 hL hi hv h⟩
  | 14, _ => exact ⟨622, rfl, l_c14 hL hi hv h⟩
  | 15, _ => exact ⟨645, rfl, l_c15 hL hi hv h⟩
  | 16, _ => exact ⟨678, rfl, l_c16 hL hi hv h⟩
  | 17, _ => exact ⟨701, rfl, l_c17 hL hi hv h⟩
  | 18, _ => exact ⟨734, rfl, l_c18 hL hi hv h⟩
  | 19, _ => exact ⟨757, rfl, l_c19 hL hi hv h⟩
  | 20, _ => exact ⟨780, rfl, l_c20 hL hi hv h⟩
  | 21, _ => exact ⟨803, rfl, l_c21 hL hi hv h⟩
  | 22, _ => exact ⟨826, rfl, l_c22 hL hi hv h⟩
  | 23, _ => exact ⟨849, rfl, l_c23 hL hi hv h⟩
  | 24, _ => exact ⟨882, rfl, l_c24 hL hi hv h⟩
  | 25, _ => exact ⟨905, rfl, l_c25 hL hi hv h⟩
  | 26, _ => exact ⟨928, rfl, l_c26 hL hi hv h⟩
  | 27, _ => exact ⟨941, rfl, l_c27 hL hi hv h⟩
  | 28, _ => exact ⟨964, rfl, l_c28 hL hi hv h⟩
  | 29, _ => exact ⟨997, rfl, l_c29 hL hi hv h⟩
  | 30, _ => exact ⟨1010, rfl, l_c30 hL hi hv h⟩
  | 31, _ => exact ⟨1033, rfl, l_c31 hL hi hv h⟩
  | 32, _ => exact ⟨1046, rfl, l_c32 hL hi hv h⟩
  | n + 33, q => exact absurd q (by omega)
theorem l_loop {g : GT} {b L : Nat} {xs : Nat → Int32} (hL : L ≤ 3072) : ∀ (n i : Nat) (σ : Sg), L < i + n → i ≤ 3080 → zIV σ → WL g b L xs 18 i [] σ := by
  intro n
  induction n with
  | zero => exact fun i σ h1 h2 hv => l_head hL (by omega) (fun q => absurd q (by omega))
  | succ n ih => exact fun i σ h1 h2 hv => l_head hL (by omega) (fun q => l_body hL q hv (fun σ2 h3 => l_next (by omega) (ih (i + 6) σ2 (by omega) (by omega) h3)))
