/-! THE LAW'S CASES: a call on both sides, the answers are one, the relation holds on -/
section LCS
variable {V : LV} {c : Nat} {SC SM : St} {i : Int32}
/-- what the loop gives a case -/
abbrev AR (V : LV) (i : Int32) : Prop := vp_in (i + 1) (uN V) ∧ vp_in (i + 2) (uN V) ∧ vp_in (i + 3) (uN V) ∧ vp_in (i + 4) (uN V) ∧ vp_in (i + 5) (uN V)
abbrev KK (V : LV) (c : Nat) (i : Int32) : Prop := ∀ SC1 SM1 : St, Rel (c + 1) SC1 SM1 → LF V SC1 SM1 1283 (LL V i) []
theorem k_dish (C : LX V) (h : AR V i) (R : Rel c SC SM) (kk : KK V c i) : LF V SC SM 188 (LL V i) [] := by
  refine lf_aload_n C dL_law_188 rfl 2 rfl ?_
  refine lf_arg (j := 1) C dL_law_189 dL_law_190 dL_law_191 (by decide) dL_law_192 h.1 dL_law_193 ?_
  refine lf_arg (j := 2) C dL_law_194 dL_law_195 dL_law_196 (by decide) dL_law_197 h.2.1 dL_law_198 ?_
  refine lf_arg (j := 3) C dL_law_199 dL_law_200 dL_law_201 (by decide) dL_law_202 h.2.2.1 dL_law_203 ?_
  refine lf_callC C [.int (ux V (i + 1).toNatClampNeg), .int (ux V (i + 2).toNatClampNeg), .int (ux V (i + 3).toNatClampNeg)] [] q305 q306 (c_X6_dish (uL V) (uG V) (ux V (i + 1).toNatClampNeg) (ux V (i + 2).toNatClampNeg) (ux V (i + 3).toNatClampNeg) _ _ (f_dish R (ux V (i + 1).toNatClampNeg) (ux V (i + 2).toNatClampNeg) (ux V (i + 3).toNatClampNeg))) q304 q307 q65 md_X6_dish (Nat.le_of_ble_eq_true rfl) (Nat.le_of_ble_eq_true rfl) rfl rfl (Nat.le_of_ble_eq_true rfl) dL_law_204 (fun r SC1 hm => ?_)
  refine lf_aload_n C dL_law_207 rfl 1 rfl ?_
  refine lf_arg (j := 1) C dL_law_208 dL_law_209 dL_law_210 (by decide) dL_law_211 h.1 dL_law_212 ?_
  refine lf_arg (j := 2) C dL_law_213 dL_law_214 dL_law_215 (by decide) dL_law_216 h.2.1 dL_law_217 ?_
  refine lf_arg (j := 3) C dL_law_218 dL_law_219 dL_law_220 (by decide) dL_law_221 h.2.2.1 dL_law_222 ?_
  refine lf_callM C [.int (ux V (i + 1).toNatClampNeg), .int (ux V (i + 2).toNatClampNeg), .int (ux V (i + 3).toNatClampNeg)] [.int r] q828 q829 (c_X7_dish (uL V) (uG V) (ux V (i + 1).toNatClampNeg) (ux V (i + 2).toNatClampNeg) (ux V (i + 3).toNatClampNeg) _ _ hm) q827 q830 q72 md_X7_dish (Nat.le_of_ble_eq_true rfl) (Nat.le_of_ble_eq_true rfl) rfl rfl (Nat.le_of_ble_eq_true rfl) dL_law_223 (fun r2 SM1 hq => ?_)
  obtain ⟨rfl, R1⟩ := hq
  exact lf_eqT C (tgt := 1283) dL_law_226 (by decide) (kk _ _ R1)
theorem k_dishIs (C : LX V) (h : AR V i) (R : Rel c SC SM) (kk : KK V c i) : LF V SC SM 231 (LL V i) [] := by
  refine lf_aload_n C dL_law_231 rfl 2 rfl ?_
  refine lf_arg (j := 1) C dL_law_232 dL_law_233 dL_law_234 (by decide) dL_law_235 h.1 dL_law_236 ?_
  refine lf_arg (j := 2) C dL_law_237 dL_law_238 dL_law_239 (by decide) dL_law_240 h.2.1 dL_law_241 ?_
  refine lf_callC C [.int (ux V (i + 1).toNatClampNeg), .int (ux V (i + 2).toNatClampNeg)] [] q324 q325 (c_X6_dishIs (uL V) (uG V) (ux V (i + 1).toNatClampNeg) (ux V (i + 2).toNatClampNeg) _ _ (f_dishIs R (ux V (i + 1).toNatClampNeg) (ux V (i + 2).toNatClampNeg))) q323 q326 q65 md_X6_dishIs (Nat.le_of_ble_eq_true rfl) (Nat.le_of_ble_eq_true rfl) rfl rfl (Nat.le_of_ble_eq_true rfl) dL_law_242 (fun r SC1 hm => ?_)
  refine lf_aload_n C dL_law_245 rfl 1 rfl ?_
  refine lf_arg (j := 1) C dL_law_246 dL_law_247 dL_law_248 (by decide) dL_law_249 h.1 dL_law_250 ?_
  refine lf_arg (j := 2) C dL_law_251 dL_law_252 dL_law_253 (by decide) dL_law_254 h.2.1 dL_law_255 ?_
  refine lf_callM C [.int (ux V (i + 1).toNatClampNeg), .int (ux V (i + 2).toNatClampNeg)] [.int r] q843 q844 (c_X7_dishIs (uL V) (uG V) (ux V (i + 1).toNatClampNeg) (ux V (i + 2).toNatClampNeg) _ _ hm) q842 q845 q72 md_X7_dishIs (Nat.le_of_ble_eq_true rfl) (Nat.le_of_ble_eq_true rfl) rfl rfl (Nat.le_of_ble_eq_true rfl) dL_law_256 (fun r2 SM1 hq => ?_)
  obtain ⟨rfl, R1⟩ := hq
  exact lf_eqT C (tgt := 1283) dL_law_259 (by decide) (kk _ _ R1)
theorem k_become (C : LX V) (h : AR V i) (R : Rel c SC SM) (kk : KK V c i) : LF V SC SM 264 (LL V i) [] := by
  refine lf_aload_n C dL_law_264 rfl 2 rfl ?_
  refine lf_arg (j := 1) C dL_law_265 dL_law_266 dL_law_267 (by decide) dL_law_268 h.1 dL_law_269 ?_
  refine lf_arg (j := 2) C dL_law_270 dL_law_271 dL_law_272 (by decide) dL_law_273 h.2.1 dL_law_274 ?_
  refine lf_callC C [.int (ux V (i + 1).toNatClampNeg), .int (ux V (i + 2).toNatClampNeg)] [] q375 q376 (c_X6_become (uL V) (uG V) (ux V (i + 1).toNatClampNeg) (ux V (i + 2).toNatClampNeg) _ _ (f_become R (ux V (i + 1).toNatClampNeg) (ux V (i + 2).toNatClampNeg))) q374 q377 q65 md_X6_become (Nat.le_of_ble_eq_true rfl) (Nat.le_of_ble_eq_true rfl) rfl rfl (Nat.le_of_ble_eq_true rfl) dL_law_275 (fun r SC1 hm => ?_)
  refine lf_aload_n C dL_law_278 rfl 1 rfl ?_
  refine lf_arg (j := 1) C dL_law_279 dL_law_280 dL_law_281 (by decide) dL_law_282 h.1 dL_law_283 ?_
  refine lf_arg (j := 2) C dL_law_284 dL_law_285 dL_law_286 (by decide) dL_law_287 h.2.1 dL_law_288 ?_
  refine lf_callM C [.int (ux V (i + 1).toNatClampNeg), .int (ux V (i + 2).toNatClampNeg)] [.int r] q895 q896 (c_X7_become (uL V) (uG V) (ux V (i + 1).toNatClampNeg) (ux V (i + 2).toNatClampNeg) _ _ hm) q894 q897 q72 md_X7_become (Nat.le_of_ble_eq_true rfl) (Nat.le_of_ble_eq_true rfl) rfl rfl (Nat.le_of_ble_eq_true rfl) dL_law_289 (fun r2 SM1 hq => ?_)
  obtain ⟨rfl, R1⟩ := hq
  exact lf_eqT C (tgt := 1283) dL_law_292 (by decide) (kk _ _ R1)
theorem k_as (C : LX V) (h : AR V i) (R : Rel c SC SM) (kk : KK V c i) : LF V SC SM 297 (LL V i) [] := by
  refine lf_aload_n C dL_law_297 rfl 2 rfl ?_
  refine lf_arg (j := 1) C dL_law_298 dL_law_299 dL_law_300 (by decide) dL_law_301 h.1 dL_law_302 ?_
  refine lf_arg (j := 2) C dL_law_303 dL_law_304 dL_law_305 (by decide) dL_law_306 h.2.1 dL_law_307 ?_
  refine lf_callC C [.int (ux V (i + 1).toNatClampNeg), .int (ux V (i + 2).toNatClampNeg)] [] q379 q380 (c_X6_as (uL V) (uG V) (ux V (i + 1).toNatClampNeg) (ux V (i + 2).toNatClampNeg) _ _ (f_as R (ux V (i + 1).toNatClampNeg) (ux V (i + 2).toNatClampNeg))) q378 q381 q65 md_X6_as (Nat.le_of_ble_eq_true rfl) (Nat.le_of_ble_eq_true rfl) rfl rfl (Nat.le_of_ble_eq_true rfl) dL_law_308 (fun r SC1 hm => ?_)
  refine lf_aload_n C dL_law_311 rfl 1 rfl ?_
  refine lf_arg (j := 1) C dL_law_312 dL_law_313 dL_law_314 (by decide) dL_law_315 h.1 dL_law_316 ?_
  refine lf_arg (j := 2) C dL_law_317 dL_law_318 dL_law_319 (by decide) dL_law_320 h.2.1 dL_law_321 ?_
  refine lf_callM C [.int (ux V (i + 1).toNatClampNeg), .int (ux V (i + 2).toNatClampNeg)] [.int r] q903 q904 (c_X7_as (uL V) (uG V) (ux V (i + 1).toNatClampNeg) (ux V (i + 2).toNatClampNeg) _ _ hm) q902 q905 q72 md_X7_as (Nat.le_of_ble_eq_true rfl) (Nat.le_of_ble_eq_true rfl) rfl rfl (Nat.le_of_ble_eq_true rfl) dL_law_322 (fun r2 SM1 hq => ?_)
  obtain ⟨rfl, R1⟩ := hq
  exact lf_eqT C (tgt := 1283) dL_law_325 (by decide) (kk _ _ R1)
theorem k_serve (C : LX V) (h : AR V i) (R : Rel c SC SM) (kk : KK V c i) : LF V SC SM 330 (LL V i) [] := by
  refine lf_aload_n C dL_law_330 rfl 2 rfl ?_
  refine lf_arg (j := 1) C dL_law_331 dL_law_332 dL_law_333 (by decide) dL_law_334 h.1 dL_law_335 ?_
  refine lf_arg (j := 2) C dL_law_336 dL_law_337 dL_law_338 (by decide) dL_law_339 h.2.1 dL_law_340 ?_
  refine lf_callC C [.int (ux V (i + 1).toNatClampNeg), .int (ux V (i + 2).toNatClampNeg)] [] q385 q386 (c_X6_serve (uL V) (uG V) (ux V (i + 1).toNatClampNeg) (ux V (i + 2).toNatClampNeg) _ _ (f_serve R (ux V (i + 1).toNatClampNeg) (ux V (i + 2).toNatClampNeg))) q384 q387 q65 md_X6_serve (Nat.le_of_ble_eq_true rfl) (Nat.le_of_ble_eq_true rfl) rfl rfl (Nat.le_of_ble_eq_true rfl) dL_law_341 (fun r SC1 hm => ?_)
  refine lf_aload_n C dL_law_344 rfl 1 rfl ?_
  refine lf_arg (j := 1) C dL_law_345 dL_law_346 dL_law_347 (by decide) dL_law_348 h.1 dL_law_349 ?_
  refine lf_arg (j := 2) C dL_law_350 dL_law_351 dL_law_352 (by decide) dL_law_353 h.2.1 dL_law_354 ?_
  refine lf_callM C [.int (ux V (i + 1).toNatClampNeg), .int (ux V (i + 2).toNatClampNeg)] [.int r] q910 q911 (c_X7_serve (uL V) (uG V) (ux V (i + 1).toNatClampNeg) (ux V (i + 2).toNatClampNeg) _ _ hm) q909 q912 q72 md_X7_serve (Nat.le_of_ble_eq_true rfl) (Nat.le_of_ble_eq_true rfl) rfl rfl (Nat.le_of_ble_eq_true rfl) dL_law_355 (fun r2 SM1 hq => ?_)
  obtain ⟨rfl, R1⟩ := hq
  exact lf_eqT C (tgt := 1283) dL_law_358 (by decide) (kk _ _ R1)
theorem k_season (C : LX V) (h : AR V i) (R : Rel c SC SM) (kk : KK V c i) : LF V SC SM 363 (LL V i) [] := by
  refine lf_aload_n C dL_law_363 rfl 2 rfl ?_
  refine lf_arg (j := 1) C dL_law_364 dL_law_365 dL_law_366 (by decide) dL_law_367 h.1 dL_law_368 ?_
  refine lf_arg (j := 2) C dL_law_369 dL_law_370 dL_law_371 (by decide) dL_law_372 h.2.1 dL_law_373 ?_
  refine lf_callC C [.int (ux V (i + 1).toNatClampNeg), .int (ux V (i + 2).toNatClampNeg)] [] q389 q390 (c_X6_season (uL V) (uG V) (ux V (i + 1).toNatClampNeg) (ux V (i + 2).toNatClampNeg) _ _ (f_season R (ux V (i + 1).toNatClampNeg) (ux V (i + 2).toNatClampNeg))) q388 q391 q65 md_X6_season (Nat.le_of_ble_eq_true rfl) (Nat.le_of_ble_eq_true rfl) rfl rfl (Nat.le_of_ble_eq_true rfl) dL_law_374 (fun r SC1 hm => ?_)
  refine lf_aload_n C dL_law_377 rfl 1 rfl ?_
  refine lf_arg (j := 1) C dL_law_378 dL_law_379 dL_law_380 (by decide) dL_law_381 h.1 dL_law_382 ?_
  refine lf_arg (j := 2) C dL_law_383 dL_law_384 dL_law_385 (by decide) dL_law_386 h.2.1 dL_law_387 ?_
  refine lf_callM C [.int (ux V (i + 1).toNatClampNeg), .int (ux V (i + 2).toNatClampNeg)] [.int r] q914 q915 (c_X7_season (uL V) (uG V) (ux V (i + 1).toNatClampNeg) (ux V (i + 2).toNatClampNeg) _ _ hm) q913 q916 q72 md_X7_season (Nat.le_of_ble_eq_true rfl) (Nat.le_of_ble_eq_true rfl) rfl rfl (Nat.le_of_ble_eq_true rfl) dL_law_388 (fun r2 SM1 hq => ?_)
  obtain ⟨rfl, R1⟩ := hq
  exact lf_eqT C (tgt := 1283) dL_law_391 (by decide) (kk _ _ R1)
theorem k_rules (C : LX V) (h : AR V i) (R : Rel c SC SM) (kk : KK V c i) : LF V SC SM 396 (LL V i) [] := by
  refine lf_aload_n C dL_law_396 rfl 2 rfl ?_
  refine lf_callC C [] [] q393 q394 (c_X6_rules (uL V) (uG V)  _ _ (f_rules R)) q392 q395 q65 md_X6_rules (Nat.le_of_ble_eq_true rfl) (Nat.le_of_ble_eq_true rfl) rfl rfl (Nat.le_of_ble_eq_true rfl) dL_law_397 (fun r SC1 hm => ?_)
  refine lf_aload_n C dL_law_400 rfl 1 rfl ?_
  refine lf_callM C [] [.int r] q918 q919 (c_X7_rules (uL V) (uG V)  _ _ hm) q917 q920 q72 md_X7_rules (Nat.le_of_ble_eq_true rfl) (Nat.le_of_ble_eq_true rfl) rfl rfl (Nat.le_of_ble_eq_true rfl) dL_law_401 (fun r2 SM1 hq => ?_)
  obtain ⟨rfl, R1⟩ := hq
  exact lf_eqT C (tgt := 1283) dL_law_404 (by decide) (kk _ _ R1)
theorem k_feed (C : LX V) (h : AR V i) (R : Rel c SC SM) (kk : KK V c i) : LF V SC SM 409 (LL V i) [] := by
  refine lf_aload_n C dL_law_409 rfl 2 rfl ?_
  refine lf_arg (j := 1) C dL_law_410 dL_law_411 dL_law_412 (by decide) dL_law_413 h.1 dL_law_414 ?_
  refine lf_i2l C dL_law_415 ?_
  refine lf_bipush (v := 32) C dL_law_416 (by decide) ?_
  refine lf_lshl C dL_law_418 ?_
  refine lf_arg (j := 2) C dL_law_419 dL_law_420 dL_law_421 (by decide) dL_law_422 h.2.1 dL_law_423 ?_
  refine lf_i2l C dL_law_424 ?_
  refine lf_ldc2 C dL_law_425 q1118 ?_
  refine lf_land C dL_law_428 ?_
  refine lf_lor C dL_law_429 ?_
  refine lf_arg (j := 3) C dL_law_430 dL_law_431 dL_law_432 (by decide) dL_law_433 h.2.2.1 dL_law_434 ?_
  refine lf_callC C [.long (((ux V (i + 1).toNatClampNeg).toInt64 <<< ((32 : Int32).toInt64 &&& 63)) ||| ((ux V (i + 2).toNatClampNeg).toInt64 &&& (4294967295 : Int64))), .int (ux V (i + 3).toNatClampNeg)] [] q397 q398 (c_X6_feed (uL V) (uG V) (((ux V (i + 1).toNatClampNeg).toInt64 <<< ((32 : Int32).toInt64 &&& 63)) ||| ((ux V (i + 2).toNatClampNeg).toInt64 &&& (4294967295 : Int64))) (ux V (i + 3).toNatClampNeg) _ _ (f_feed R (((ux V (i + 1).toNatClampNeg).toInt64 <<< ((32 : Int32).toInt64 &&& 63)) ||| ((ux V (i + 2).toNatClampNeg).toInt64 &&& (4294967295 : Int64))) (ux V (i + 3).toNatClampNeg))) q396 q399 q65 md_X6_feed (Nat.le_of_ble_eq_true rfl) (Nat.le_of_ble_eq_true rfl) rfl rfl (Nat.le_of_ble_eq_true rfl) dL_law_435 (fun r SC1 hm => ?_)
  refine lf_aload_n C dL_law_438 rfl 1 rfl ?_
  refine lf_arg (j := 1) C dL_law_439 dL_law_440 dL_law_441 (by decide) dL_law_442 h.1 dL_law_443 ?_
  refine lf_i2l C dL_law_444 ?_
  refine lf_bipush (v := 32) C dL_law_445 (by decide) ?_
  refine lf_lshl C dL_law_447 ?_
  refine lf_arg (j := 2) C dL_law_448 dL_law_449 dL_law_450 (by decide) dL_law_451 h.2.1 dL_law_452 ?_
  refine lf_i2l C dL_law_453 ?_
  refine lf_ldc2 C dL_law_454 q1118 ?_
  refine lf_land C dL_law_457 ?_
  refine lf_lor C dL_law_458 ?_
  refine lf_arg (j := 3) C dL_law_459 dL_law_460 dL_law_461 (by decide) dL_law_462 h.2.2.1 dL_law_463 ?_
  refine lf_callM C [.long (((ux V (i + 1).toNatClampNeg).toInt64 <<< ((32 : Int32).toInt64 &&& 63)) ||| ((ux V (i + 2).toNatClampNeg).toInt64 &&& (4294967295 : Int64))), .int (ux V (i + 3).toNatClampNeg)] [.int r] q763 q764 (c_X7_feed (uL V) (uG V) (((ux V (i + 1).toNatClampNeg).toInt64 <<< ((32 : Int32).toInt64 &&& 63)) ||| ((ux V (i + 2).toNatClampNeg).toInt64 &&& (4294967295 : Int64))) (ux V (i + 3).toNatClampNeg) _ _ hm) q762 q765 q72 md_X7_feed (Nat.le_of_ble_eq_true rfl) (Nat.le_of_ble_eq_true rfl) rfl rfl (Nat.le_of_ble_eq_true rfl) dL_law_464 (fun r2 SM1 hq => ?_)
  obtain ⟨rfl, R1⟩ := hq
  exact lf_eqT C (tgt := 1283) dL_law_467 (by decide) (kk _ _ R1)
theorem k_text (C : LX V) (h : AR V i) (R : Rel c SC SM) (kk : KK V c i) : LF V SC SM 472 (LL V i) [] := by
  refine lf_aload_n C dL_law_472 rfl 2 rfl ?_
  refine lf_arg (j := 1) C dL_law_473 dL_law_474 dL_law_475 (by decide) dL_law_476 h.1 dL_law_477 ?_
  refine lf_callC C [.int (ux V (i + 1).toNatClampNeg)] [] q401 q402 (c_X6_text (uL V) (uG V) (ux V (i + 1).toNatClampNeg) _ _ (f_text R (ux V (i + 1).toNatClampNeg))) q400 q403 q65 md_X6_text (Nat.le_of_ble_eq_true rfl) (Nat.le_of_ble_eq_true rfl) rfl rfl (Nat.le_of_ble_eq_true rfl) dL_law_478 (fun r SC1 hm => ?_)
  refine lf_aload_n C dL_law_481 rfl 1 rfl ?_
  refine lf_arg (j := 1) C dL_law_482 dL_law_483 dL_law_484 (by decide) dL_law_485 h.1 dL_law_486 ?_
  refine lf_callM C [.int (ux V (i + 1).toNatClampNeg)] [.int r] q776 q777 (c_X7_text (uL V) (uG V) (ux V (i + 1).toNatClampNeg) _ _ hm) q775 q778 q72 md_X7_text (Nat.le_of_ble_eq_true rfl) (Nat.le_of_ble_eq_true rfl) rfl rfl (Nat.le_of_ble_eq_true rfl) dL_law_487 (fun r2 SM1 hq => ?_)
  obtain ⟨rfl, R1⟩ := hq
  exact lf_eqT C (tgt := 1283) dL_law_490 (by decide) (kk _ _ R1)
theorem k_untell (C : LX V) (h : AR V i) (R : Rel c SC SM) (kk : KK V c i) : LF V SC SM 495 (LL V i) [] := by
  refine lf_aload_n C dL_law_495 rfl 2 rfl ?_
  refine lf_arg (j := 1) C dL_law_496 dL_law_497 dL_law_498 (by decide) dL_law_499 h.1 dL_law_500 ?_
  refine lf_callC C [.int (ux V (i + 1).toNatClampNeg)] [] q465 q466 (c_X6_untell (uL V) (uG V) (ux V (i + 1).toNatClampNeg) _ _ (f_untell R (ux V (i + 1).toNatClampNeg))) q464 q467 q65 md_X6_untell (Nat.le_of_ble_eq_true rfl) (Nat.le_of_ble_eq_true rfl) rfl rfl (Nat.le_of_ble_eq_true rfl) dL_law_501 (fun r SC1 hm => ?_)
  refine lf_aload_n C dL_law_504 rfl 1 rfl ?_
  refine lf_arg (j := 1) C dL_law_505 dL_law_506 dL_law_507 (by decide) dL_law_508 h.1 dL_law_509 ?_
  refine lf_callM C [.int (ux V (i + 1).toNatClampNeg)] [.int r] q820 q821 (c_X7_untell (uL V) (uG V) (ux V (i + 1).toNatClampNeg) _ _ hm) q819 q822 q72 md_X7_untell (Nat.le_of_ble_eq_true rfl) (Nat.le_of_ble_eq_true rfl) rfl rfl (Nat.le_of_ble_eq_true rfl) dL_law_510 (fun r2 SM1 hq => ?_)
  obtain ⟨rfl, R1⟩ := hq
  exact lf_eqT C (tgt := 1283) dL_law_513 (by decide) (kk _ _ R1)
theorem k_law (C : LX V) (h : AR V i) (R : Rel c SC SM) (kk : KK V c i) : LF V SC SM 518 (LL V i) [] := by
  refine lf_aload_n C dL_law_518 rfl 2 rfl ?_
  refine lf_arg (j := 1) C dL_law_519 dL_law_520 dL_law_521 (by decide) dL_law_522 h.1 dL_law_523 ?_
  refine lf_arg (j := 2) C dL_law_524 dL_law_525 dL_law_526 (by decide) dL_law_527 h.2.1 dL_law_528 ?_
  refine lf_arg (j := 3) C dL_law_529 dL_law_530 dL_law_531 (by decide) dL_law_532 h.2.2.1 dL_law_533 ?_
  refine lf_arg (j := 4) C dL_law_534 dL_law_535 dL_law_536 (by decide) dL_law_537 h.2.2.2.1 dL_law_538 ?_
  refine lf_callC C [.int (ux V (i + 1).toNatClampNeg), .int (ux V (i + 2).toNatClampNeg), .int (ux V (i + 3).toNatClampNeg), .int (ux V (i + 4).toNatClampNeg)] [] q470 q471 (c_X6_law (uL V) (uG V) (ux V (i + 1).toNatClampNeg) (ux V (i + 2).toNatClampNeg) (ux V (i + 3).toNatClampNeg) (ux V (i + 4).toNatClampNeg) _ _ (f_law R (ux V (i + 1).toNatClampNeg) (ux V (i + 2).toNatClampNeg) (ux V (i + 3).toNatClampNeg) (ux V (i + 4).toNatClampNeg))) q469 q472 q65 md_X6_law (Nat.le_of_ble_eq_true rfl) (Nat.le_of_ble_eq_true rfl) rfl rfl (Nat.le_of_ble_eq_true rfl) dL_law_539 (fun r SC1 hm => ?_)
  refine lf_aload_n C dL_law_542 rfl 1 rfl ?_
  refine lf_arg (j := 1) C dL_law_543 dL_law_544 dL_law_545 (by decide) dL_law_546 h.1 dL_law_547 ?_
  refine lf_arg (j := 2) C dL_law_548 dL_law_549 dL_law_550 (by decide) dL_law_551 h.2.1 dL_law_552 ?_
  refine lf_arg (j := 3) C dL_law_553 dL_law_554 dL_law_555 (by decide) dL_law_556 h.2.2.1 dL_law_557 ?_
  refine lf_arg (j := 4) C dL_law_558 dL_law_559 dL_law_560 (by decide) dL_law_561 h.2.2.2.1 dL_law_562 ?_
  refine lf_callM C [.int (ux V (i + 1).toNatClampNeg), .int (ux V (i + 2).toNatClampNeg), .int (ux V (i + 3).toNatClampNeg), .int (ux V (i + 4).toNatClampNeg)] [.int r] q922 q923 (c_X7_law (uL V) (uG V) (ux V (i + 1).toNatClampNeg) (ux V (i + 2).toNatClampNeg) (ux V (i + 3).toNatClampNeg) (ux V (i + 4).toNatClampNeg) _ _ hm) q921 q924 q72 md_X7_law (Nat.le_of_ble_eq_true rfl) (Nat.le_of_ble_eq_true rfl) rfl rfl (Nat.le_of_ble_eq_true rfl) dL_law_563 (fun r2 SM1 hq => ?_)
  obtain ⟨rfl, R1⟩ := hq
  exact lf_eqT C (tgt := 1283) dL_law_566 (by decide) (kk _ _ R1)
theorem k_meal (C : LX V) (h : AR V i) (R : Rel c SC SM) (kk : KK V c i) : LF V SC SM 571 (LL V i) [] := by
  refine lf_aload_n C dL_law_571 rfl 2 rfl ?_
  refine lf_arg (j := 1) C dL_law_572 dL_law_573 dL_law_574 (by decide) dL_law_575 h.1 dL_law_576 ?_
  refine lf_callC C [.int (ux V (i + 1).toNatClampNeg)] [] q475 q476 (c_X6_meal (uL V) (uG V) (ux V (i + 1).toNatClampNeg) _ _ (f_meal R (ux V (i + 1).toNatClampNeg))) q474 q477 q65 md_X6_meal (Nat.le_of_ble_eq_true rfl) (Nat.le_of_ble_eq_true rfl) rfl rfl (Nat.le_of_ble_eq_true rfl) dL_law_577 (fun r SC1 hm => ?_)
  refine lf_aload_n C dL_law_580 rfl 1 rfl ?_
  refine lf_arg (j := 1) C dL_law_581 dL_law_582 dL_law_583 (by decide) dL_law_584 h.1 dL_law_585 ?_
  refine lf_callM C [.int (ux V (i + 1).toNatClampNeg)] [.int r] q926 q927 (c_X7_meal (uL V) (uG V) (ux V (i + 1).toNatClampNeg) _ _ hm) q925 q928 q72 md_X7_meal (Nat.le_of_ble_eq_true rfl) (Nat.le_of_ble_eq_true rfl) rfl rfl (Nat.le_of_ble_eq_true rfl) dL_law_586 (fun r2 SM1 hq => ?_)
  obtain ⟨rfl, R1⟩ := hq
  exact lf_eqT C (tgt := 1283) dL_law_589 (by decide) (kk _ _ R1)
theorem k_meals (C : LX V) (h : AR V i) (R : Rel c SC SM) (kk : KK V c i) : LF V SC SM 594 (LL V i) [] := by
  refine lf_aload_n C dL_law_594 rfl 2 rfl ?_
  refine lf_arg (j := 1) C dL_law_595 dL_law_596 dL_law_597 (by decide) dL_law_598 h.1 dL_law_599 ?_
  refine lf_arg (j := 2) C dL_law_600 dL_law_601 dL_law_602 (by decide) dL_law_603 h.2.1 dL_law_604 ?_
  refine lf_callC C [.int (ux V (i + 1).toNatClampNeg), .int (ux V (i + 2).toNatClampNeg)] [] q499 q500 (c_X6_meals (uL V) (uG V) (ux V (i + 1).toNatClampNeg) (ux V (i + 2).toNatClampNeg) _ _ (f_meals R (ux V (i + 1).toNatClampNeg) (ux V (i + 2).toNatClampNeg))) q498 q501 q65 md_X6_meals (Nat.le_of_ble_eq_true rfl) (Nat.le_of_ble_eq_true rfl) rfl rfl (Nat.le_of_ble_eq_true rfl) dL_law_605 (fun r SC1 hm => ?_)
  refine lf_aload_n C dL_law_608 rfl 1 rfl ?_
  refine lf_arg (j := 1) C dL_law_609 dL_law_610 dL_law_611 (by decide) dL_law_612 h.1 dL_law_613 ?_
  refine lf_arg (j := 2) C dL_law_614 dL_law_615 dL_law_616 (by decide) dL_law_617 h.2.1 dL_law_618 ?_
  refine lf_callM C [.int (ux V (i + 1).toNatClampNeg), .int (ux V (i + 2).toNatClampNeg)] [.int r] q946 q947 (c_X7_meals (uL V) (uG V) (ux V (i + 1).toNatClampNeg) (ux V (i + 2).toNatClampNeg) _ _ hm) q945 q948 q72 md_X7_meals (Nat.le_of_ble_eq_true rfl) (Nat.le_of_ble_eq_true rfl) rfl rfl (Nat.le_of_ble_eq_true rfl) dL_law_619 (fun r2 SM1 hq => ?_)
  obtain ⟨rfl, R1⟩ := hq
  exact lf_eqT C (tgt := 1283) dL_law_622 (by decide) (kk _ _ R1)
theorem k_loose (C : LX V) (h : AR V i) (R : Rel c SC SM) (kk : KK V c i) : LF V SC SM 627 (LL V i) [] := by
  refine lf_aload_n C dL_law_627 rfl 2 rfl ?_
  refine lf_arg (j := 1) C dL_law_628 dL_law_629 dL_law_630 (by decide) dL_law_631 h.1 dL_law_632 ?_
  refine lf_callC C [.int (ux V (i + 1).toNatClampNeg)] [] q512 q513 (c_X6_loose (uL V) (uG V) (ux V (i + 1).toNatClampNeg) _ _ (f_loose R (ux V (i + 1).toNatClampNeg))) q511 q514 q65 md_X6_loose (Nat.le_of_ble_eq_true rfl) (Nat.le_of_ble_eq_true rfl) rfl rfl (Nat.le_of_ble_eq_true rfl) dL_law_633 (fun r SC1 hm => ?_)
  refine lf_aload_n C dL_law_636 rfl 1 rfl ?_
  refine lf_arg (j := 1) C dL_law_637 dL_law_638 dL_law_639 (by decide) dL_law_640 h.1 dL_law_641 ?_
  refine lf_callM C [.int (ux V (i + 1).toNatClampNeg)] [.int r] q958 q959 (c_X7_loose (uL V) (uG V) (ux V (i + 1).toNatClampNeg) _ _ hm) q957 q960 q72 md_X7_loose (Nat.le_of_ble_eq_true rfl) (Nat.le_of_ble_eq_true rfl) rfl rfl (Nat.le_of_ble_eq_true rfl) dL_law_642 (fun r2 SM1 hq => ?_)
  obtain ⟨rfl, R1⟩ := hq
  exact lf_eqT C (tgt := 1283) dL_law_645 (by decide) (kk _ _ R1)
theorem k_seed (C : LX V) (h : AR V i) (R : Rel c SC SM) (kk : KK V c i) : LF V SC SM 650 (LL V i) [] := by
  refine lf_aload_n C dL_law_650 rfl 2 rfl ?_
  refine lf_arg (j := 1) C dL_law_651 dL_law_652 dL_law_653 (by decide) dL_law_654 h.1 dL_law_655 ?_
  refine lf_callC C [.int (ux V (i + 1).toNatClampNeg)] [] q527 q528 (c_X6_seed (uL V) (uG V) (ux V (i + 1).toNatClampNeg) _ _ (f_seed R (ux V (i + 1).toNatClampNeg))) q526 q529 q65 md_X6_seed (Nat.le_of_ble_eq_true rfl) (Nat.le_of_ble_eq_true rfl) rfl rfl (Nat.le_of_ble_eq_true rfl) dL_law_656 (fun r SC1 hm => ?_)
  refine lf_aload_n C dL_law_659 rfl 1 rfl ?_
  refine lf_arg (j := 1) C dL_law_660 dL_law_661 dL_law_662 (by decide) dL_law_663 h.1 dL_law_664 ?_
  refine lf_callM C [.int (ux V (i + 1).toNatClampNeg)] [.int r] q971 q972 (c_X7_seed (uL V) (uG V) (ux V (i + 1).toNatClampNeg) _ _ hm) q970 q973 q72 md_X7_seed (Nat.le_of_ble_eq_true rfl) (Nat.le_of_ble_eq_true rfl) rfl rfl (Nat.le_of_ble_eq_true rfl) dL_law_665 (fun r2 SM1 hq => ?_)
  obtain ⟨rfl, R1⟩ := hq
  exact lf_eqT C (tgt := 1283) dL_law_668 (by decide) (kk _ _ R1)
theorem k_then (C : LX V) (h : AR V i) (R : Rel c SC SM) (kk : KK V c i) : LF V SC SM 673 (LL V i) [] := by
  refine lf_aload_n C dL_law_673 rfl 2 rfl ?_
  refine lf_arg (j := 1) C dL_law_674 dL_law_675 dL_law_676 (by decide) dL_law_677 h.1 dL_law_678 ?_
  refine lf_arg (j := 2) C dL_law_679 dL_law_680 dL_law_681 (by decide) dL_law_682 h.2.1 dL_law_683 ?_
  refine lf_arg (j := 3) C dL_law_684 dL_law_685 dL_law_686 (by decide) dL_law_687 h.2.2.1 dL_law_688 ?_
  refine lf_callC C [.int (ux V (i + 1).toNatClampNeg), .int (ux V (i + 2).toNatClampNeg), .int (ux V (i + 3).toNatClampNeg)] [] q531 q532 (c_X6_then (uL V) (uG V) (ux V (i + 1).toNatClampNeg) (ux V (i + 2).toNatClampNeg) (ux V (i + 3).toNatClampNeg) _ _ (f_then R (ux V (i + 1).toNatClampNeg) (ux V (i + 2).toNatClampNeg) (ux V (i + 3).toNatClampNeg))) q530 q533 q65 md_X6_then (Nat.le_of_ble_eq_true rfl) (Nat.le_of_ble_eq_true rfl) rfl rfl (Nat.le_of_ble_eq_true rfl) dL_law_689 (fun r SC1 hm => ?_)
  refine lf_aload_n C dL_law_692 rfl 1 rfl ?_
  refine lf_arg (j := 1) C dL_law_693 dL_law_694 dL_law_695 (by decide) dL_law_696 h.1 dL_law_697 ?_
  refine lf_arg (j := 2) C dL_law_698 dL_law_699 dL_law_700 (by decide) dL_law_701 h.2.1 dL_law_702 ?_
  refine lf_arg (j := 3) C dL_law_703 dL_law_704 dL_law_705 (by decide) dL_law_706 h.2.2.1 dL_law_707 ?_
  refine lf_callM C [.int (ux V (i + 1).toNatClampNeg), .int (ux V (i + 2).toNatClampNeg), .int (ux V (i + 3).toNatClampNeg)] [.int r] q975 q976 (c_X7_then (uL V) (uG V) (ux V (i + 1).toNatClampNeg) (ux V (i + 2).toNatClampNeg) (ux V (i + 3).toNatClampNeg) _ _ hm) q974 q977 q72 md_X7_then (Nat.le_of_ble_eq_true rfl) (Nat.le_of_ble_eq_true rfl) rfl rfl (Nat.le_of_ble_eq_true rfl) dL_law_708 (fun r2 SM1 hq => ?_)
  obtain ⟨rfl, R1⟩ := hq
  exact lf_eqT C (tgt := 1283) dL_law_711 (by decide) (kk _ _ R1)
theorem k_gone (C : LX V) (h : AR V i) (R : Rel c SC SM) (kk : KK V c i) : LF V SC SM 716 (LL V i) [] := by
  refine lf_aload_n C dL_law_716 rfl 2 rfl ?_
  refine lf_arg (j := 1) C dL_law_717 dL_law_718 dL_law_719 (by decide) dL_law_720 h.1 dL_law_721 ?_
  refine lf_arg (j := 2) C dL_law_722 dL_law_723 dL_law_724 (by decide) dL_law_725 h.2.1 dL_law_726 ?_
  refine lf_callC C [.int (ux V (i + 1).toNatClampNeg), .int (ux V (i + 2).toNatClampNeg)] [] q539 q540 (c_X6_gone (uL V) (uG V) (ux V (i + 1).toNatClampNeg) (ux V (i + 2).toNatClampNeg) _ _ (f_gone R (ux V (i + 1).toNatClampNeg) (ux V (i + 2).toNatClampNeg))) q538 q541 q65 md_X6_gone (Nat.le_of_ble_eq_true rfl) (Nat.le_of_ble_eq_true rfl) rfl rfl (Nat.le_of_ble_eq_true rfl) dL_law_727 (fun r SC1 hm => ?_)
  refine lf_aload_n C dL_law_730 rfl 1 rfl ?_
  refine lf_arg (j := 1) C dL_law_731 dL_law_732 dL_law_733 (by decide) dL_law_734 h.1 dL_law_735 ?_
  refine lf_arg (j := 2) C dL_law_736 dL_law_737 dL_law_738 (by decide) dL_law_739 h.2.1 dL_law_740 ?_
  refine lf_callM C [.int (ux V (i + 1).toNatClampNeg), .int (ux V (i + 2).toNatClampNeg)] [.int r] q987 q988 (c_X7_gone (uL V) (uG V) (ux V (i + 1).toNatClampNeg) (ux V (i + 2).toNatClampNeg) _ _ hm) q986 q989 q72 md_X7_gone (Nat.le_of_ble_eq_true rfl) (Nat.le_of_ble_eq_true rfl) rfl rfl (Nat.le_of_ble_eq_true rfl) dL_law_741 (fun r2 SM1 hq => ?_)
  obtain ⟨rfl, R1⟩ := hq
  exact lf_eqT C (tgt := 1283) dL_law_744 (by decide) (kk _ _ R1)
theorem k_needs (C : LX V) (h : AR V i) (R : Rel c SC SM) (kk : KK V c i) : LF V SC SM 749 (LL V i) [] := by
  refine lf_aload_n C dL_law_749 rfl 2 rfl ?_
  refine lf_arg (j := 1) C dL_law_750 dL_law_751 dL_law_752 (by decide) dL_law_753 h.1 dL_law_754 ?_
  refine lf_callC C [.int (ux V (i + 1).toNatClampNeg)] [] q543 q544 (c_X6_needs (uL V) (uG V) (ux V (i + 1).toNatClampNeg) _ _ (f_needs R (ux V (i + 1).toNatClampNeg))) q542 q545 q65 md_X6_needs (Nat.le_of_ble_eq_true rfl) (Nat.le_of_ble_eq_true rfl) rfl rfl (Nat.le_of_ble_eq_true rfl) dL_law_755 (fun r SC1 hm => ?_)
  refine lf_aload_n C dL_law_758 rfl 1 rfl ?_
  refine lf_arg (j := 1) C dL_law_759 dL_law_760 dL_law_761 (by decide) dL_law_762 h.1 dL_law_763 ?_
  refine lf_callM C [.int (ux V (i + 1).toNatClampNeg)] [.int r] q991 q992 (c_X7_needs (uL V) (uG V) (ux V (i + 1).toNatClampNeg) _ _ hm) q990 q993 q72 md_X7_needs (Nat.le_of_ble_eq_true rfl) (Nat.le_of_ble_eq_true rfl) rfl rfl (Nat.le_of_ble_eq_true rfl) dL_law_764 (fun r2 SM1 hq => ?_)
  obtain ⟨rfl, R1⟩ := hq
  exact lf_eqT C (tgt := 1283) dL_law_767 (by decide) (kk _ _ R1)
theorem k_clears (C : LX V) (h : AR V i) (R : Rel c SC SM) (kk : KK V c i) : LF V SC SM 772 (LL V i) [] := by
  refine lf_aload_n C dL_law_772 rfl 2 rfl ?_
  refine lf_arg (j := 1) C dL_law_773 dL_law_774 dL_law_775 (by decide) dL_law_776 h.1 dL_law_777 ?_
  refine lf_arg (j := 2) C dL_law_778 dL_law_779 dL_law_780 (by decide) dL_law_781 h.2.1 dL_law_782 ?_
  refine lf_arg (j := 3) C dL_law_783 dL_law_784 dL_law_785 (by decide) dL_law_786 h.2.2.1 dL_law_787 ?_
  refine lf_arg (j := 4) C dL_law_788 dL_law_789 dL_law_790 (by decide) dL_law_791 h.2.2.2.1 dL_law_792 ?_
  refine lf_callC C [.int (ux V (i + 1).toNatClampNeg), .int (ux V (i + 2).toNatClampNeg), .int (ux V (i + 3).toNatClampNeg), .int (ux V (i + 4).toNatClampNeg)] [] q547 q548 (c_X6_clears (uL V) (uG V) (ux V (i + 1).toNatClampNeg) (ux V (i + 2).toNatClampNeg) (ux V (i + 3).toNatClampNeg) (ux V (i + 4).toNatClampNeg) _ _ (f_clears R (ux V (i + 1).toNatClampNeg) (ux V (i + 2).toNatClampNeg) (ux V (i + 3).toNatClampNeg) (ux V (i + 4).toNatClampNeg))) q546 q549 q65 md_X6_clears (Nat.le_of_ble_eq_true rfl) (Nat.le_of_ble_eq_true rfl) rfl rfl (Nat.le_of_ble_eq_true rfl) dL_law_793 (fun r SC1 hm => ?_)
  refine lf_aload_n C dL_law_796 rfl 1 rfl ?_
  refine lf_arg (j := 1) C dL_law_797 dL_law_798 dL_law_799 (by decide) dL_law_800 h.1 dL_law_801 ?_
  refine lf_arg (j := 2) C dL_law_802 dL_law_803 dL_law_804 (by decide) dL_law_805 h.2.1 dL_law_806 ?_
  refine lf_arg (j := 3) C dL_law_807 dL_law_808 dL_law_809 (by decide) dL_law_810 h.2.2.1 dL_law_811 ?_
  refine lf_arg (j := 4) C dL_law_812 dL_law_813 dL_law_814 (by decide) dL_law_815 h.2.2.2.1 dL_law_816 ?_
  refine lf_callM C [.int (ux V (i + 1).toNatClampNeg), .int (ux V (i + 2).toNatClampNeg), .int (ux V (i + 3).toNatClampNeg), .int (ux V (i + 4).toNatClampNeg)] [.int r] q995 q996 (c_X7_clears (uL V) (uG V) (ux V (i + 1).toNatClampNeg) (ux V (i + 2).toNatClampNeg) (ux V (i + 3).toNatClampNeg) (ux V (i + 4).toNatClampNeg) _ _ hm) q994 q997 q72 md_X7_clears (Nat.le_of_ble_eq_true rfl) (Nat.le_of_ble_eq_true rfl) rfl rfl (Nat.le_of_ble_eq_true rfl) dL_law_817 (fun r2 SM1 hq => ?_)
  obtain ⟨rfl, R1⟩ := hq
  exact lf_eqT C (tgt := 1283) dL_law_820 (by decide) (kk _ _ R1)
theorem k_brings (C : LX V) (h : AR V i) (R : Rel c SC SM) (kk : KK V c i) : LF V SC SM 825 (LL V i) [] := by
  refine lf_aload_n C dL_law_825 rfl 2 rfl ?_
  refine lf_arg (j := 1) C dL_law_826 dL_law_827 dL_law_828 (by decide) dL_law_829 h.1 dL_law_830 ?_
  refine lf_arg (j := 2) C dL_law_831 dL_law_832 dL_law_833 (by decide) dL_law_834 h.2.1 dL_law_835 ?_
  refine lf_callC C [.int (ux V (i + 1).toNatClampNeg), .int (ux V (i + 2).toNatClampNeg)] [] q561 q562 (c_X6_brings (uL V) (uG V) (ux V (i + 1).toNatClampNeg) (ux V (i + 2).toNatClampNeg) _ _ (f_brings R (ux V (i + 1).toNatClampNeg) (ux V (i + 2).toNatClampNeg))) q560 q563 q65 md_X6_brings (Nat.le_of_ble_eq_true rfl) (Nat.le_of_ble_eq_true rfl) rfl rfl (Nat.le_of_ble_eq_true rfl) dL_law_836 (fun r SC1 hm => ?_)
  refine lf_aload_n C dL_law_839 rfl 1 rfl ?_
  refine lf_arg (j := 1) C dL_law_840 dL_law_841 dL_law_842 (by decide) dL_law_843 h.1 dL_law_844 ?_
  refine lf_arg (j := 2) C dL_law_845 dL_law_846 dL_law_847 (by decide) dL_law_848 h.2.1 dL_law_849 ?_
  refine lf_callM C [.int (ux V (i + 1).toNatClampNeg), .int (ux V (i + 2).toNatClampNeg)] [.int r] q1006 q1007 (c_X7_brings (uL V) (uG V) (ux V (i + 1).toNatClampNeg) (ux V (i + 2).toNatClampNeg) _ _ hm) q1005 q1008 q72 md_X7_brings (Nat.le_of_ble_eq_true rfl) (Nat.le_of_ble_eq_true rfl) rfl rfl (Nat.le_of_ble_eq_true rfl) dL_law_850 (fun r2 SM1 hq => ?_)
  obtain ⟨rfl, R1⟩ := hq
  exact lf_eqT C (tgt := 1283) dL_law_853 (by decide) (kk _ _ R1)
theorem k_odds (C : LX V) (h : AR V i) (R : Rel c SC SM) (kk : KK V c i) : LF V SC SM 858 (LL V i) [] := by
  refine lf_aload_n C dL_law_858 rfl 2 rfl ?_
  refine lf_arg (j := 1) C dL_law_859 dL_law_860 dL_law_861 (by decide) dL_law_862 h.1 dL_law_863 ?_
  refine lf_callC C [.int (ux V (i + 1).toNatClampNeg)] [] q569 q570 (c_X6_odds (uL V) (uG V) (ux V (i + 1).toNatClampNeg) _ _ (f_odds R (ux V (i + 1).toNatClampNeg))) q568 q571 q65 md_X6_odds (Nat.le_of_ble_eq_true rfl) (Nat.le_of_ble_eq_true rfl) rfl rfl (Nat.le_of_ble_eq_true rfl) dL_law_864 (fun r SC1 hm => ?_)
  refine lf_aload_n C dL_law_867 rfl 1 rfl ?_
  refine lf_arg (j := 1) C dL_law_868 dL_law_869 dL_law_870 (by decide) dL_law_871 h.1 dL_law_872 ?_
  refine lf_callM C [.int (ux V (i + 1).toNatClampNeg)] [.int r] q1014 q1015 (c_X7_odds (uL V) (uG V) (ux V (i + 1).toNatClampNeg) _ _ hm) q1013 q1016 q72 md_X7_odds (Nat.le_of_ble_eq_true rfl) (Nat.le_of_ble_eq_true rfl) rfl rfl (Nat.le_of_ble_eq_true rfl) dL_law_873 (fun r2 SM1 hq => ?_)
  obtain ⟨rfl, R1⟩ := hq
  exact lf_eqT C (tgt := 1283) dL_law_876 (by decide) (kk _ _ R1)
theorem k_fits (C : LX V) (h : AR V i) (R : Rel c SC SM) (kk : KK V c i) : LF V SC SM 881 (LL V i) [] := by
  refine lf_aload_n C dL_law_881 rfl 2 rfl ?_
  refine lf_arg (j := 1) C dL_law_882 dL_law_883 dL_law_884 (by decide) dL_law_885 h.1 dL_law_886 ?_
  refine lf_arg (j := 2) C dL_law_887 dL_law_888 dL_law_889 (by decide) dL_law_890 h.2.1 dL_law_891 ?_
  refine lf_callC C [.int (ux V (i + 1).toNatClampNeg), .int (ux V (i + 2).toNatClampNeg)] [] q576 q577 (c_X6_fits (uL V) (uG V) (ux V (i + 1).toNatClampNeg) (ux V (i + 2).toNatClampNeg) _ _ (f_fits R (ux V (i + 1).toNatClampNeg) (ux V (i + 2).toNatClampNeg))) q575 q578 q65 md_X6_fits (Nat.le_of_ble_eq_true rfl) (Nat.le_of_ble_eq_true rfl) rfl rfl (Nat.le_of_ble_eq_true rfl) dL_law_892 (fun r SC1 hm => ?_)
  refine lf_aload_n C dL_law_895 rfl 1 rfl ?_
  refine lf_arg (j := 1) C dL_law_896 dL_law_897 dL_law_898 (by decide) dL_law_899 h.1 dL_law_900 ?_
  refine lf_arg (j := 2) C dL_law_901 dL_law_902 dL_law_903 (by decide) dL_law_904 h.2.1 dL_law_905 ?_
  refine lf_callM C [.int (ux V (i + 1).toNatClampNeg), .int (ux V (i + 2).toNatClampNeg)] [.int r] q1021 q1022 (c_X7_fits (uL V) (uG V) (ux V (i + 1).toNatClampNeg) (ux V (i + 2).toNatClampNeg) _ _ hm) q1020 q1023 q72 md_X7_fits (Nat.le_of_ble_eq_true rfl) (Nat.le_of_ble_eq_true rfl) rfl rfl (Nat.le_of_ble_eq_true rfl) dL_law_906 (fun r2 SM1 hq => ?_)
  obtain ⟨rfl, R1⟩ := hq
  exact lf_eqT C (tgt := 1283) dL_law_909 (by decide) (kk _ _ R1)
theorem k_voice (C : LX V) (h : AR V i) (R : Rel c SC SM) (kk : KK V c i) : LF V SC SM 914 (LL V i) [] := by
  refine lf_aload_n C dL_law_914 rfl 2 rfl ?_
  refine lf_arg (j := 1) C dL_law_915 dL_law_916 dL_law_917 (by decide) dL_law_918 h.1 dL_law_919 ?_
  refine lf_arg (j := 2) C dL_law_920 dL_law_921 dL_law_922 (by decide) dL_law_923 h.2.1 dL_law_924 ?_
  refine lf_arg (j := 3) C dL_law_925 dL_law_926 dL_law_927 (by decide) dL_law_928 h.2.2.1 dL_law_929 ?_
  refine lf_callC C [.int (ux V (i + 1).toNatClampNeg), .int (ux V (i + 2).toNatClampNeg), .int (ux V (i + 3).toNatClampNeg)] [] q591 q592 (c_X6_voice (uL V) (uG V) (ux V (i + 1).toNatClampNeg) (ux V (i + 2).toNatClampNeg) (ux V (i + 3).toNatClampNeg) _ _ (f_voice R (ux V (i + 1).toNatClampNeg) (ux V (i + 2).toNatClampNeg) (ux V (i + 3).toNatClampNeg))) q590 q593 q65 md_X6_voice (Nat.le_of_ble_eq_true rfl) (Nat.le_of_ble_eq_true rfl) rfl rfl (Nat.le_of_ble_eq_true rfl) dL_law_930 (fun r SC1 hm => ?_)
  refine lf_aload_n C dL_law_933 rfl 1 rfl ?_
  refine lf_arg (j := 1) C dL_law_934 dL_law_935 dL_law_936 (by decide) dL_law_937 h.1 dL_law_938 ?_
  refine lf_arg (j := 2) C dL_law_939 dL_law_940 dL_law_941 (by decide) dL_law_942 h.2.1 dL_law_943 ?_
  refine lf_arg (j := 3) C dL_law_944 dL_law_945 dL_law_946 (by decide) dL_law_947 h.2.2.1 dL_law_948 ?_
  refine lf_callM C [.int (ux V (i + 1).toNatClampNeg), .int (ux V (i + 2).toNatClampNeg), .int (ux V (i + 3).toNatClampNeg)] [.int r] q1036 q1037 (c_X7_voice (uL V) (uG V) (ux V (i + 1).toNatClampNeg) (ux V (i + 2).toNatClampNeg) (ux V (i + 3).toNatClampNeg) _ _ hm) q1035 q1038 q72 md_X7_voice (Nat.le_of_ble_eq_true rfl) (Nat.le_of_ble_eq_true rfl) rfl rfl (Nat.le_of_ble_eq_true rfl) dL_law_949 (fun r2 SM1 hq => ?_)
  obtain ⟨rfl, R1⟩ := hq
  exact lf_eqT C (tgt := 1283) dL_law_952 (by decide) (kk _ _ R1)
theorem k_body (C : LX V) (h : AR V i) (R : Rel c SC SM) (kk : KK V c i) : LF V SC SM 957 (LL V i) [] := by
  refine lf_aload_n C dL_law_957 rfl 2 rfl ?_
  refine lf_arg (j := 1) C dL_law_958 dL_law_959 dL_law_960 (by decide) dL_law_961 h.1 dL_law_962 ?_
  refine lf_callC C [.int (ux V (i + 1).toNatClampNeg)] [] q621 q622 (c_X6_body (uL V) (uG V) (ux V (i + 1).toNatClampNeg) _ _ (f_body R (ux V (i + 1).toNatClampNeg))) q620 q623 q65 md_X6_body (Nat.le_of_ble_eq_true rfl) (Nat.le_of_ble_eq_true rfl) rfl rfl (Nat.le_of_ble_eq_true rfl) dL_law_963 (fun r SC1 hm => ?_)
  refine lf_aload_n C dL_law_966 rfl 1 rfl ?_
  refine lf_arg (j := 1) C dL_law_967 dL_law_968 dL_law_969 (by decide) dL_law_970 h.1 dL_law_971 ?_
  refine lf_callM C [.int (ux V (i + 1).toNatClampNeg)] [.int r] q1068 q1069 (c_X7_body (uL V) (uG V) (ux V (i + 1).toNatClampNeg) _ _ hm) q1067 q1070 q72 md_X7_body (Nat.le_of_ble_eq_true rfl) (Nat.le_of_ble_eq_true rfl) rfl rfl (Nat.le_of_ble_eq_true rfl) dL_law_972 (fun r2 SM1 hq => ?_)
  obtain ⟨rfl, R1⟩ := hq
  exact lf_eqT C (tgt := 1283) dL_law_975 (by decide) (kk _ _ R1)
theorem k_sheet (C : LX V) (h : AR V i) (R : Rel c SC SM) (kk : KK V c i) : LF V SC SM 980 (LL V i) [] := by
  refine lf_aload_n C dL_law_980 rfl 2 rfl ?_
  refine lf_arg (j := 1) C dL_law_981 dL_law_982 dL_law_983 (by decide) dL_law_984 h.1 dL_law_985 ?_
  refine lf_arg (j := 2) C dL_law_986 dL_law_987 dL_law_988 (by decide) dL_law_989 h.2.1 dL_law_990 ?_
  refine lf_arg (j := 3) C dL_law_991 dL_law_992 dL_law_993 (by decide) dL_law_994 h.2.2.1 dL_law_995 ?_
  refine lf_callC C [.int (ux V (i + 1).toNatClampNeg), .int (ux V (i + 2).toNatClampNeg), .int (ux V (i + 3).toNatClampNeg)] [] q625 q626 (c_X6_sheet (uL V) (uG V) (ux V (i + 1).toNatClampNeg) (ux V (i + 2).toNatClampNeg) (ux V (i + 3).toNatClampNeg) _ _ (f_sheet R (ux V (i + 1).toNatClampNeg) (ux V (i + 2).toNatClampNeg) (ux V (i + 3).toNatClampNeg))) q624 q627 q65 md_X6_sheet (Nat.le_of_ble_eq_true rfl) (Nat.le_of_ble_eq_true rfl) rfl rfl (Nat.le_of_ble_eq_true rfl) dL_law_996 (fun r SC1 hm => ?_)
  refine lf_aload_n C dL_law_999 rfl 1 rfl ?_
  refine lf_arg (j := 1) C dL_law_1000 dL_law_1001 dL_law_1002 (by decide) dL_law_1003 h.1 dL_law_1004 ?_
  refine lf_arg (j := 2) C dL_law_1005 dL_law_1006 dL_law_1007 (by decide) dL_law_1008 h.2.1 dL_law_1009 ?_
  refine lf_arg (j := 3) C dL_law_1010 dL_law_1011 dL_law_1012 (by decide) dL_law_1013 h.2.2.1 dL_law_1014 ?_
  refine lf_callM C [.int (ux V (i + 1).toNatClampNeg), .int (ux V (i + 2).toNatClampNeg), .int (ux V (i + 3).toNatClampNeg)] [.int r] q1072 q1073 (c_X7_sheet (uL V) (uG V) (ux V (i + 1).toNatClampNeg) (ux V (i + 2).toNatClampNeg) (ux V (i + 3).toNatClampNeg) _ _ hm) q1071 q1074 q72 md_X7_sheet (Nat.le_of_ble_eq_true rfl) (Nat.le_of_ble_eq_true rfl) rfl rfl (Nat.le_of_ble_eq_true rfl) dL_law_1015 (fun r2 SM1 hq => ?_)
  obtain ⟨rfl, R1⟩ := hq
  exact lf_eqT C (tgt := 1283) dL_law_1018 (by decide) (kk _ _ R1)
theorem k_put (C : LX V) (h : AR V i) (R : Rel c SC SM) (kk : KK V c i) : LF V SC SM 1023 (LL V i) [] := by
  refine lf_aload_n C dL_law_1023 rfl 2 rfl ?_
  refine lf_arg (j := 1) C dL_law_1024 dL_law_1025 dL_law_1026 (by decide) dL_law_1027 h.1 dL_law_1028 ?_
  refine lf_arg (j := 2) C dL_law_1029 dL_law_1030 dL_law_1031 (by decide) dL_law_1032 h.2.1 dL_law_1033 ?_
  refine lf_arg (j := 3) C dL_law_1034 dL_law_1035 dL_law_1036 (by decide) dL_law_1037 h.2.2.1 dL_law_1038 ?_
  refine lf_callC C [.int (ux V (i + 1).toNatClampNeg), .int (ux V (i + 2).toNatClampNeg), .int (ux V (i + 3).toNatClampNeg)] [] q633 q634 (c_X6_put (uL V) (uG V) (ux V (i + 1).toNatClampNeg) (ux V (i + 2).toNatClampNeg) (ux V (i + 3).toNatClampNeg) _ _ (f_put R (ux V (i + 1).toNatClampNeg) (ux V (i + 2).toNatClampNeg) (ux V (i + 3).toNatClampNeg))) q632 q635 q65 md_X6_put (Nat.le_of_ble_eq_true rfl) (Nat.le_of_ble_eq_true rfl) rfl rfl (Nat.le_of_ble_eq_true rfl) dL_law_1039 (fun r SC1 hm => ?_)
  refine lf_aload_n C dL_law_1042 rfl 1 rfl ?_
  refine lf_arg (j := 1) C dL_law_1043 dL_law_1044 dL_law_1045 (by decide) dL_law_1046 h.1 dL_law_1047 ?_
  refine lf_arg (j := 2) C dL_law_1048 dL_law_1049 dL_law_1050 (by decide) dL_law_1051 h.2.1 dL_law_1052 ?_
  refine lf_arg (j := 3) C dL_law_1053 dL_law_1054 dL_law_1055 (by decide) dL_law_1056 h.2.2.1 dL_law_1057 ?_
  refine lf_callM C [.int (ux V (i + 1).toNatClampNeg), .int (ux V (i + 2).toNatClampNeg), .int (ux V (i + 3).toNatClampNeg)] [.int r] q1076 q1077 (c_X7_put (uL V) (uG V) (ux V (i + 1).toNatClampNeg) (ux V (i + 2).toNatClampNeg) (ux V (i + 3).toNatClampNeg) _ _ hm) q1075 q1078 q72 md_X7_put (Nat.le_of_ble_eq_true rfl) (Nat.le_of_ble_eq_true rfl) rfl rfl (Nat.le_of_ble_eq_true rfl) dL_law_1058 (fun r2 SM1 hq => ?_)
  obtain ⟨rfl, R1⟩ := hq
  exact lf_eqT C (tgt := 1283) dL_law_1061 (by decide) (kk _ _ R1)
theorem k_move (C : LX V) (h : AR V i) (R : Rel c SC SM) (kk : KK V c i) : LF V SC SM 1066 (LL V i) [] := by
  refine lf_aload_n C dL_law_1066 rfl 2 rfl ?_
  refine lf_arg (j := 1) C dL_law_1067 dL_law_1068 dL_law_1069 (by decide) dL_law_1070 h.1 dL_law_1071 ?_
  refine lf_arg (j := 2) C dL_law_1072 dL_law_1073 dL_law_1074 (by decide) dL_law_1075 h.2.1 dL_law_1076 ?_
  refine lf_arg (j := 3) C dL_law_1077 dL_law_1078 dL_law_1079 (by decide) dL_law_1080 h.2.2.1 dL_law_1081 ?_
  refine lf_arg (j := 4) C dL_law_1082 dL_law_1083 dL_law_1084 (by decide) dL_law_1085 h.2.2.2.1 dL_law_1086 ?_
  refine lf_arg (j := 5) C dL_law_1087 dL_law_1088 dL_law_1089 (by decide) dL_law_1090 h.2.2.2.2 dL_law_1091 ?_
  refine lf_callC C [.int (ux V (i + 1).toNatClampNeg), .int (ux V (i + 2).toNatClampNeg), .int (ux V (i + 3).toNatClampNeg), .int (ux V (i + 4).toNatClampNeg), .int (ux V (i + 5).toNatClampNeg)] [] q641 q642 (c_X6_move (uL V) (uG V) (ux V (i + 1).toNatClampNeg) (ux V (i + 2).toNatClampNeg) (ux V (i + 3).toNatClampNeg) (ux V (i + 4).toNatClampNeg) (ux V (i + 5).toNatClampNeg) _ _ (f_move R (ux V (i + 1).toNatClampNeg) (ux V (i + 2).toNatClampNeg) (ux V (i + 3).toNatClampNeg) (ux V (i + 4).toNatClampNeg) (ux V (i + 5).toNatClampNeg))) q640 q643 q65 md_X6_move (Nat.le_of_ble_eq_true rfl) (Nat.le_of_ble_eq_true rfl) rfl rfl (Nat.le_of_ble_eq_true rfl) dL_law_1092 (fun r SC1 hm => ?_)
  refine lf_aload_n C dL_law_1095 rfl 1 rfl ?_
  refine lf_arg (j := 1) C dL_law_1096 dL_law_1097 dL_law_1098 (by decide) dL_law_1099 h.1 dL_law_1100 ?_
  refine lf_arg (j := 2) C dL_law_1101 dL_law_1102 dL_law_1103 (by decide) dL_law_1104 h.2.1 dL_law_1105 ?_
  refine lf_arg (j := 3) C dL_law_1106 dL_law_1107 dL_law_1108 (by decide) dL_law_1109 h.2.2.1 dL_law_1110 ?_
  refine lf_arg (j := 4) C dL_law_1111 dL_law_1112 dL_law_1113 (by decide) dL_law_1114 h.2.2.2.1 dL_law_1115 ?_
  refine lf_arg (j := 5) C dL_law_1116 dL_law_1117 dL_law_1118 (by decide) dL_law_1119 h.2.2.2.2 dL_law_1120 ?_
  refine lf_callM C [.int (ux V (i + 1).toNatClampNeg), .int (ux V (i + 2).toNatClampNeg), .int (ux V (i + 3).toNatClampNeg), .int (ux V (i + 4).toNatClampNeg), .int (ux V (i + 5).toNatClampNeg)] [.int r] q1080 q1081 (c_X7_move (uL V) (uG V) (ux V (i + 1).toNatClampNeg) (ux V (i + 2).toNatClampNeg) (ux V (i + 3).toNatClampNeg) (ux V (i + 4).toNatClampNeg) (ux V (i + 5).toNatClampNeg) _ _ hm) q1079 q1082 q72 md_X7_move (Nat.le_of_ble_eq_true rfl) (Nat.le_of_ble_eq_true rfl) rfl rfl (Nat.le_of_ble_eq_true rfl) dL_law_1121 (fun r2 SM1 hq => ?_)
  obtain ⟨rfl, R1⟩ := hq
  exact lf_eqT C (tgt := 1283) dL_law_1124 (by decide) (kk _ _ R1)
theorem k_serves (C : LX V) (h : AR V i) (R : Rel c SC SM) (kk : KK V c i) : LF V SC SM 1129 (LL V i) [] := by
  refine lf_aload_n C dL_law_1129 rfl 2 rfl ?_
  refine lf_arg (j := 1) C dL_law_1130 dL_law_1131 dL_law_1132 (by decide) dL_law_1133 h.1 dL_law_1134 ?_
  refine lf_callC C [.int (ux V (i + 1).toNatClampNeg)] [] q650 q651 (c_X6_serves (uL V) (uG V) (ux V (i + 1).toNatClampNeg) _ _ (f_serves R (ux V (i + 1).toNatClampNeg))) q649 q652 q65 md_X6_serves (Nat.le_of_ble_eq_true rfl) (Nat.le_of_ble_eq_true rfl) rfl rfl (Nat.le_of_ble_eq_true rfl) dL_law_1135 (fun r SC1 hm => ?_)
  refine lf_aload_n C dL_law_1138 rfl 1 rfl ?_
  refine lf_arg (j := 1) C dL_law_1139 dL_law_1140 dL_law_1141 (by decide) dL_law_1142 h.1 dL_law_1143 ?_
  refine lf_callM C [.int (ux V (i + 1).toNatClampNeg)] [.int r] q1084 q1085 (c_X7_serves (uL V) (uG V) (ux V (i + 1).toNatClampNeg) _ _ hm) q1083 q1086 q72 md_X7_serves (Nat.le_of_ble_eq_true rfl) (Nat.le_of_ble_eq_true rfl) rfl rfl (Nat.le_of_ble_eq_true rfl) dL_law_1144 (fun r2 SM1 hq => ?_)
  obtain ⟨rfl, R1⟩ := hq
  exact lf_eqT C (tgt := 1283) dL_law_1147 (by decide) (kk _ _ R1)
theorem k_judge (C : LX V) (h : AR V i) (R : Rel c SC SM) (kk : KK V c i) : LF V SC SM 1152 (LL V i) [] := by
  refine lf_aload_n C dL_law_1152 rfl 2 rfl ?_
  refine lf_arg (j := 1) C dL_law_1153 dL_law_1154 dL_law_1155 (by decide) dL_law_1156 h.1 dL_law_1157 ?_
  refine lf_callC C [.int (ux V (i + 1).toNatClampNeg)] [] q654 q655 (c_X6_judge (uL V) (uG V) (ux V (i + 1).toNatClampNeg) _ _ (f_judge R (ux V (i + 1).toNatClampNeg))) q653 q656 q65 md_X6_judge (Nat.le_of_ble_eq_true rfl) (Nat.le_of_ble_eq_true rfl) rfl rfl (Nat.le_of_ble_eq_true rfl) dL_law_1158 (fun r SC1 hm => ?_)
  refine lf_aload_n C dL_law_1161 rfl 1 rfl ?_
  refine lf_arg (j := 1) C dL_law_1162 dL_law_1163 dL_law_1164 (by decide) dL_law_1165 h.1 dL_law_1166 ?_
  refine lf_callM C [.int (ux V (i + 1).toNatClampNeg)] [.int r] q1088 q1089 (c_X7_judge (uL V) (uG V) (ux V (i + 1).toNatClampNeg) _ _ hm) q1087 q1090 q72 md_X7_judge (Nat.le_of_ble_eq_true rfl) (Nat.le_of_ble_eq_true rfl) rfl rfl (Nat.le_of_ble_eq_true rfl) dL_law_1167 (fun r2 SM1 hq => ?_)
  obtain ⟨rfl, R1⟩ := hq
  exact lf_eqT C (tgt := 1283) dL_law_1170 (by decide) (kk _ _ R1)
theorem k_image (C : LX V) (h : AR V i) (R : Rel c SC SM) (kk : KK V c i) : LF V SC SM 1175 (LL V i) [] := by
  refine lf_aload_n C dL_law_1175 rfl 2 rfl ?_
  refine lf_callC C [] [] q658 q659 (c_X6_image (uL V) (uG V)  _ _ (f_image R)) q657 q660 q65 md_X6_image (Nat.le_of_ble_eq_true rfl) (Nat.le_of_ble_eq_true rfl) rfl rfl (Nat.le_of_ble_eq_true rfl) dL_law_1176 (fun r SC1 hm => ?_)
  refine lf_aload_n C dL_law_1179 rfl 1 rfl ?_
  refine lf_callM C [] [.int r] q1092 q1093 (c_X7_image (uL V) (uG V)  _ _ hm) q1091 q1094 q72 md_X7_image (Nat.le_of_ble_eq_true rfl) (Nat.le_of_ble_eq_true rfl) rfl rfl (Nat.le_of_ble_eq_true rfl) dL_law_1180 (fun r2 SM1 hq => ?_)
  obtain ⟨rfl, R1⟩ := hq
  exact lf_eqT C (tgt := 1283) dL_law_1183 (by decide) (kk _ _ R1)
theorem k_restore (C : LX V) (h : AR V i) (hc : c < 2 ^ 31) (R : Rel c SC SM) (kk : KK V c i) : LF V SC SM 1188 (LL V i) [] := by
  refine lf_aload_n C dL_law_1188 rfl 2 rfl ?_
  refine lf_callC C [] [] q669 q670 (c_X6_restore (uL V) (uG V)  _ _ (f_restore hc R)) q668 q671 q65 md_X6_restore (Nat.le_of_ble_eq_true rfl) (Nat.le_of_ble_eq_true rfl) rfl rfl (Nat.le_of_ble_eq_true rfl) dL_law_1189 (fun r SC1 hm => ?_)
  refine lf_aload_n C dL_law_1192 rfl 1 rfl ?_
  refine lf_callM C [] [.int r] q1099 q1100 (c_X7_restore (uL V) (uG V)  _ _ hm) q1098 q1101 q72 md_X7_restore (Nat.le_of_ble_eq_true rfl) (Nat.le_of_ble_eq_true rfl) rfl rfl (Nat.le_of_ble_eq_true rfl) dL_law_1193 (fun r2 SM1 hq => ?_)
  obtain ⟨rfl, R1⟩ := hq
  exact lf_eqT C (tgt := 1283) dL_law_1196 (by decide) (kk _ _ R1)
theorem k_tell (C : LX V) (h : AR V i) (R : Rel c SC SM) (kk : KK V c i) : LF V SC SM 1201 (LL V i) [] := by
  refine lf_aload_n C dL_law_1201 rfl 2 rfl ?_
  refine lf_arg (j := 1) C dL_law_1202 dL_law_1203 dL_law_1204 (by decide) dL_law_1205 h.1 dL_law_1206 ?_
  refine lf_callC C [.int (ux V (i + 1).toNatClampNeg)] [] q673 q674 (c_X6_tell (uL V) (uG V) (ux V (i + 1).toNatClampNeg) _ _ (f_tell R (ux V (i + 1).toNatClampNeg))) q672 q675 q65 md_X6_tell (Nat.le_of_ble_eq_true rfl) (Nat.le_of_ble_eq_true rfl) rfl rfl (Nat.le_of_ble_eq_true rfl) dL_law_1207 (fun r SC1 hm => ?_)
  refine lf_aload_n C dL_law_1210 rfl 1 rfl ?_
  refine lf_arg (j := 1) C dL_law_1211 dL_law_1212 dL_law_1213 (by decide) dL_law_1214 h.1 dL_law_1215 ?_
  refine lf_callM C [.int (ux V (i + 1).toNatClampNeg)] [.int r] q1103 q1104 (c_X7_tell (uL V) (uG V) (ux V (i + 1).toNatClampNeg) _ _ hm) q1102 q1105 q72 md_X7_tell (Nat.le_of_ble_eq_true rfl) (Nat.le_of_ble_eq_true rfl) rfl rfl (Nat.le_of_ble_eq_true rfl) dL_law_1216 (fun r2 SM1 hq => ?_)
  obtain ⟨rfl, R1⟩ := hq
  exact lf_eqT C (tgt := 1283) dL_law_1219 (by decide) (kk _ _ R1)
theorem k_check (C : LX V) (h : AR V i) (R : Rel c SC SM) (kk : KK V c i) : LF V SC SM 1224 (LL V i) [] := by
  refine lf_aload_n C dL_law_1224 rfl 2 rfl ?_
  refine lf_callC C [] [] q677 q678 (c_X6_check (uL V) (uG V)  _ _ (f_check R)) q676 q679 q65 md_X6_check (Nat.le_of_ble_eq_true rfl) (Nat.le_of_ble_eq_true rfl) rfl rfl (Nat.le_of_ble_eq_true rfl) dL_law_1225 (fun r SC1 hm => ?_)
  refine lf_aload_n C dL_law_1228 rfl 1 rfl ?_
  refine lf_callM C [] [.int r] q1107 q1108 (c_X7_check (uL V) (uG V)  _ _ hm) q1106 q1109 q72 md_X7_check (Nat.le_of_ble_eq_true rfl) (Nat.le_of_ble_eq_true rfl) rfl rfl (Nat.le_of_ble_eq_true rfl) dL_law_1229 (fun r2 SM1 hq => ?_)
  obtain ⟨rfl, R1⟩ := hq
  exact lf_eqT C (tgt := 1283) dL_law_1232 (by decide) (kk _ _ R1)
theorem k_count (C : LX V) (h : AR V i) (R : Rel c SC SM) (kk : KK V c i) : LF V SC SM 1237 (LL V i) [] := by
  refine lf_aload_n C dL_law_1237 rfl 2 rfl ?_
  refine lf_arg (j := 1) C dL_law_1238 dL_law_1239 dL_law_1240 (by decide) dL_law_1241 h.1 dL_law_1242 ?_
  refine lf_callC C [.int (ux V (i + 1).toNatClampNeg)] [] q681 q682 (c_X6_count (uL V) (uG V) (ux V (i + 1).toNatClampNeg) _ _ (f_count R (ux V (i + 1).toNatClampNeg))) q680 q683 q65 md_X6_count (Nat.le_of_ble_eq_true rfl) (Nat.le_of_ble_eq_true rfl) rfl rfl (Nat.le_of_ble_eq_true rfl) dL_law_1243 (fun r SC1 hm => ?_)
  refine lf_aload_n C dL_law_1246 rfl 1 rfl ?_
  refine lf_arg (j := 1) C dL_law_1247 dL_law_1248 dL_law_1249 (by decide) dL_law_1250 h.1 dL_law_1251 ?_
  refine lf_callM C [.int (ux V (i + 1).toNatClampNeg)] [.int r] q1111 q1112 (c_X7_count (uL V) (uG V) (ux V (i + 1).toNatClampNeg) _ _ hm) q1110 q1113 q72 md_X7_count (Nat.le_of_ble_eq_true rfl) (Nat.le_of_ble_eq_true rfl) rfl rfl (Nat.le_of_ble_eq_true rfl) dL_law_1252 (fun r2 SM1 hq => ?_)
  obtain ⟨rfl, R1⟩ := hq
  exact lf_eqT C (tgt := 1283) dL_law_1255 (by decide) (kk _ _ R1)
theorem k_told (C : LX V) (h : AR V i) (R : Rel c SC SM) (kk : KK V c i) : LF V SC SM 1260 (LL V i) [] := by
  refine lf_aload_n C dL_law_1260 rfl 2 rfl ?_
  refine lf_arg (j := 1) C dL_law_1261 dL_law_1262 dL_law_1263 (by decide) dL_law_1264 h.1 dL_law_1265 ?_
  refine lf_callC C [.int (ux V (i + 1).toNatClampNeg)] [] q685 q686 (c_X6_told (uL V) (uG V) (ux V (i + 1).toNatClampNeg) _ _ (f_told R (ux V (i + 1).toNatClampNeg))) q684 q687 q65 md_X6_told (Nat.le_of_ble_eq_true rfl) (Nat.le_of_ble_eq_true rfl) rfl rfl (Nat.le_of_ble_eq_true rfl) dL_law_1266 (fun r SC1 hm => ?_)
  refine lf_aload_n C dL_law_1269 rfl 1 rfl ?_
  refine lf_arg (j := 1) C dL_law_1270 dL_law_1271 dL_law_1272 (by decide) dL_law_1273 h.1 dL_law_1274 ?_
  refine lf_callM C [.int (ux V (i + 1).toNatClampNeg)] [.int r] q1115 q1116 (c_X7_told (uL V) (uG V) (ux V (i + 1).toNatClampNeg) _ _ hm) q1114 q1117 q72 md_X7_told (Nat.le_of_ble_eq_true rfl) (Nat.le_of_ble_eq_true rfl) rfl rfl (Nat.le_of_ble_eq_true rfl) dL_law_1275 (fun r2 SM1 hq => ?_)
  obtain ⟨rfl, R1⟩ := hq
  exact lf_eqT C (tgt := 1283) dL_law_1278 (by decide) (kk _ _ R1)
end LCS
