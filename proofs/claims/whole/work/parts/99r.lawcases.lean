/-! THE LAW'S CASES: both answer alike (printed by wip/gen/mk_law.py) -/
section LAWC
variable {Z : CtxZ} {b n i : Nat} {xs : Nat → Int32} {adX adY : Nat → Nat} {MX MY : Mem}
theorem la_set (h : LZ Z b n xs) (hi : i + 7 ≤ n) (hs : Sim MX MY) (kk : ∀ MX1 MY1, Sim MX1 MY1 → AN Z 4 75 184778 1417 (LL b i adX adY) [] (WB Z adX adY MX1 MY1)) : AN Z 4 75 184778 200 (LL b i adX adY) [] (WB Z adX adY MX MY) := by
  obtain ⟨hR, E, hX, hb, hA, hn⟩ := id h
  obtain ⟨r, MX1, MY1, h1, h2, h3⟩ := eq_set hs (xs (i + 1)) (xs (i + 2))
  refine an_swap ?_
  refine an_aload_n E dL_law_200 2 rfl ?_
  refine an_arg h (k := 1) (by omega) dL_law_201 dL_law_202 (fun _ _ h => an_iconst (v := nI 1) E dL_law_203 (by decide) h) dL_law_204 dL_law_205 ?_
  refine an_arg h (k := 2) (by omega) dL_law_206 dL_law_207 (fun _ _ h => an_iconst (v := nI 2) E dL_law_208 (by decide) h) dL_law_209 dL_law_210 ?_
  refine an_callV (As := [.int (xs (i + 1)), .int (xs (i + 2))]) (S := []) (v := some (.int r)) (k := 0) E mvX8_set mlL_13 (by decide) rfl rfl rfl (ctX8_set (yl (zY Z)) (gZ Z adX) _ _ MX (r, MX1) h1) rfl (Nat.le_of_ble_eq_true rfl) ⟨by rw [hR]; exact Nat.le_of_ble_eq_true rfl, by rw [hR]; exact Nat.le_of_ble_eq_true rfl⟩ ⟨by rw [hR]; exact Nat.le_of_ble_eq_true rfl, by rw [hR]; exact Nat.le_of_ble_eq_true rfl⟩ dL_law_211 ?_
  refine an_swap ?_
  refine an_aload_n E dL_law_214 1 rfl ?_
  refine an_arg h (k := 1) (by omega) dL_law_215 dL_law_216 (fun _ _ h => an_iconst (v := nI 1) E dL_law_217 (by decide) h) dL_law_218 dL_law_219 ?_
  refine an_arg h (k := 2) (by omega) dL_law_220 dL_law_221 (fun _ _ h => an_iconst (v := nI 2) E dL_law_222 (by decide) h) dL_law_223 dL_law_224 ?_
  refine an_callV (As := [.int (xs (i + 1)), .int (xs (i + 2))]) (S := [.int r]) (v := some (.int r)) (k := 0) E mvX9_set mlL_17 (by decide) rfl rfl rfl (ctX9_set (yl (zY Z)) (gZ Z adY) _ _ MY (r, MY1) h2) rfl (Nat.le_of_ble_eq_true rfl) ⟨by rw [hR]; exact Nat.le_of_ble_eq_true rfl, by rw [hR]; exact Nat.le_of_ble_eq_true rfl⟩ ⟨by rw [hR]; exact Nat.le_of_ble_eq_true rfl, by rw [hR]; exact Nat.le_of_ble_eq_true rfl⟩ dL_law_225 ?_
  exact an_icmp_eq (tgt := 1417) E dL_law_228 (by decide) (fun _ => kk MX1 MY1 h3) (fun z => absurd rfl z)
theorem la_count (h : LZ Z b n xs) (hi : i + 7 ≤ n) (hs : Sim MX MY) (kk : ∀ MX1 MY1, Sim MX1 MY1 → AN Z 4 75 184778 1417 (LL b i adX adY) [] (WB Z adX adY MX1 MY1)) : AN Z 4 75 184778 233 (LL b i adX adY) [] (WB Z adX adY MX MY) := by
  obtain ⟨hR, E, hX, hb, hA, hn⟩ := id h
  obtain ⟨v, u, tx, hv⟩ := id hs
  have h1 := eq_count hv (xs (i + 1))
  refine an_swap ?_
  refine an_aload_n E dL_law_233 2 rfl ?_
  refine an_arg h (k := 1) (by omega) dL_law_234 dL_law_235 (fun _ _ h => an_iconst (v := nI 1) E dL_law_236 (by decide) h) dL_law_237 dL_law_238 ?_
  refine an_callV (As := [.int (xs (i + 1))]) (S := []) (v := some (.int (FX8_count (xs (i + 1)) MX))) (k := 0) E mvX8_count mlL_18 (by decide) rfl rfl rfl (ctX8_count (yl (zY Z)) (gZ Z adX) _ MX) rfl (Nat.le_of_ble_eq_true rfl) ⟨by rw [hR]; exact Nat.le_of_ble_eq_true rfl, by rw [hR]; exact Nat.le_of_ble_eq_true rfl⟩ ⟨by rw [hR]; exact Nat.le_of_ble_eq_true rfl, by rw [hR]; exact Nat.le_of_ble_eq_true rfl⟩ dL_law_239 ?_
  refine an_swap ?_
  refine an_aload_n E dL_law_242 1 rfl ?_
  refine an_arg h (k := 1) (by omega) dL_law_243 dL_law_244 (fun _ _ h => an_iconst (v := nI 1) E dL_law_245 (by decide) h) dL_law_246 dL_law_247 ?_
  refine an_callV (As := [.int (xs (i + 1))]) (S := [.int (FX8_count (xs (i + 1)) MX)]) (v := some (.int (FX9_count (xs (i + 1)) MY))) (k := 0) E mvX9_count mlL_22 (by decide) rfl rfl rfl (ctX9_count (yl (zY Z)) (gZ Z adY) _ MY) rfl (Nat.le_of_ble_eq_true rfl) ⟨by rw [hR]; exact Nat.le_of_ble_eq_true rfl, by rw [hR]; exact Nat.le_of_ble_eq_true rfl⟩ ⟨by rw [hR]; exact Nat.le_of_ble_eq_true rfl, by rw [hR]; exact Nat.le_of_ble_eq_true rfl⟩ dL_law_248 ?_
  exact an_icmp_eq (tgt := 1417) E dL_law_251 (by decide) (fun _ => kk MX MY hs) (fun z => absurd h1 z)
theorem la_feed (h : LZ Z b n xs) (hi : i + 7 ≤ n) (hs : Sim MX MY) (kk : ∀ MX1 MY1, Sim MX1 MY1 → AN Z 4 75 184778 1417 (LL b i adX adY) [] (WB Z adX adY MX1 MY1)) : AN Z 4 75 184778 256 (LL b i adX adY) [] (WB Z adX adY MX MY) := by
  obtain ⟨hR, E, hX, hb, hA, hn⟩ := id h
  obtain ⟨r, MX1, MY1, h1, h2, h3⟩ := eq_feed hs (xs (i + 1)) (xs (i + 2)) (xs (i + 3)) (xs (i + 4)) (xs (i + 5)) (xs (i + 6))
  refine an_swap ?_
  refine an_aload_n E dL_law_256 2 rfl ?_
  refine an_arg h (k := 1) (by omega) dL_law_257 dL_law_258 (fun _ _ h => an_iconst (v := nI 1) E dL_law_259 (by decide) h) dL_law_260 dL_law_261 ?_
  refine an_arg h (k := 2) (by omega) dL_law_262 dL_law_263 (fun _ _ h => an_iconst (v := nI 2) E dL_law_264 (by decide) h) dL_law_265 dL_law_266 ?_
  refine an_arg h (k := 3) (by omega) dL_law_267 dL_law_268 (fun _ _ h => an_iconst (v := nI 3) E dL_law_269 (by decide) h) dL_law_270 dL_law_271 ?_
  refine an_arg h (k := 4) (by omega) dL_law_272 dL_law_273 (fun _ _ h => an_iconst (v := nI 4) E dL_law_274 (by decide) h) dL_law_275 dL_law_276 ?_
  refine an_arg h (k := 5) (by omega) dL_law_277 dL_law_278 (fun _ _ h => an_iconst (v := nI 5) E dL_law_279 (by decide) h) dL_law_280 dL_law_281 ?_
  refine an_arg h (k := 6) (by omega) dL_law_282 dL_law_283 (fun _ _ h => an_bipush (v := nI 6) E dL_law_284 (by decide) h) dL_law_286 dL_law_287 ?_
  refine an_callV (As := [.int (xs (i + 1)), .int (xs (i + 2)), .int (xs (i + 3)), .int (xs (i + 4)), .int (xs (i + 5)), .int (xs (i + 6))]) (S := []) (v := some (.int r)) (k := 0) E mvX8_feed mlL_23 (by decide) rfl rfl rfl (ctX8_feed (yl (zY Z)) (gZ Z adX) _ _ _ _ _ _ MX (r, MX1) h1) rfl (Nat.le_of_ble_eq_true rfl) ⟨by rw [hR]; exact Nat.le_of_ble_eq_true rfl, by rw [hR]; exact Nat.le_of_ble_eq_true rfl⟩ ⟨by rw [hR]; exact Nat.le_of_ble_eq_true rfl, by rw [hR]; exact Nat.le_of_ble_eq_true rfl⟩ dL_law_288 ?_
  refine an_swap ?_
  refine an_aload_n E dL_law_291 1 rfl ?_
  refine an_arg h (k := 1) (by omega) dL_law_292 dL_law_293 (fun _ _ h => an_iconst (v := nI 1) E dL_law_294 (by decide) h) dL_law_295 dL_law_296 ?_
  refine an_arg h (k := 2) (by omega) dL_law_297 dL_law_298 (fun _ _ h => an_iconst (v := nI 2) E dL_law_299 (by decide) h) dL_law_300 dL_law_301 ?_
  refine an_arg h (k := 3) (by omega) dL_law_302 dL_law_303 (fun _ _ h => an_iconst (v := nI 3) E dL_law_304 (by decide) h) dL_law_305 dL_law_306 ?_
  refine an_arg h (k := 4) (by omega) dL_law_307 dL_law_308 (fun _ _ h => an_iconst (v := nI 4) E dL_law_309 (by decide) h) dL_law_310 dL_law_311 ?_
  refine an_arg h (k := 5) (by omega) dL_law_312 dL_law_313 (fun _ _ h => an_iconst (v := nI 5) E dL_law_314 (by decide) h) dL_law_315 dL_law_316 ?_
  refine an_arg h (k := 6) (by omega) dL_law_317 dL_law_318 (fun _ _ h => an_bipush (v := nI 6) E dL_law_319 (by decide) h) dL_law_321 dL_law_322 ?_
  refine an_callV (As := [.int (xs (i + 1)), .int (xs (i + 2)), .int (xs (i + 3)), .int (xs (i + 4)), .int (xs (i + 5)), .int (xs (i + 6))]) (S := [.int r]) (v := some (.int r)) (k := 0) E mvX9_feed mlL_27 (by decide) rfl rfl rfl (ctX9_feed (yl (zY Z)) (gZ Z adY) _ _ _ _ _ _ MY (r, MY1) h2) rfl (Nat.le_of_ble_eq_true rfl) ⟨by rw [hR]; exact Nat.le_of_ble_eq_true rfl, by rw [hR]; exact Nat.le_of_ble_eq_true rfl⟩ ⟨by rw [hR]; exact Nat.le_of_ble_eq_true rfl, by rw [hR]; exact Nat.le_of_ble_eq_true rfl⟩ dL_law_323 ?_
  exact an_icmp_eq (tgt := 1417) E dL_law_326 (by decide) (fun _ => kk MX1 MY1 h3) (fun z => absurd rfl z)
theorem la_text (h : LZ Z b n xs) (hi : i + 7 ≤ n) (hs : Sim MX MY) (kk : ∀ MX1 MY1, Sim MX1 MY1 → AN Z 4 75 184778 1417 (LL b i adX adY) [] (WB Z adX adY MX1 MY1)) : AN Z 4 75 184778 331 (LL b i adX adY) [] (WB Z adX adY MX MY) := by
  obtain ⟨hR, E, hX, hb, hA, hn⟩ := id h
  obtain ⟨r, MX1, MY1, h1, h2, h3⟩ := eq_text hs 
  refine an_swap ?_
  refine an_aload_n E dL_law_331 2 rfl ?_
  refine an_callV (As := []) (S := []) (v := some (.int r)) (k := 0) E mvX8_text mlL_28 (by decide) rfl rfl rfl (ctX8_text (yl (zY Z)) (gZ Z adX)  MX (r, MX1) h1) rfl (Nat.le_of_ble_eq_true rfl) ⟨by rw [hR]; exact Nat.le_of_ble_eq_true rfl, by rw [hR]; exact Nat.le_of_ble_eq_true rfl⟩ ⟨by rw [hR]; exact Nat.le_of_ble_eq_true rfl, by rw [hR]; exact Nat.le_of_ble_eq_true rfl⟩ dL_law_332 ?_
  refine an_swap ?_
  refine an_aload_n E dL_law_335 1 rfl ?_
  refine an_callV (As := []) (S := [.int r]) (v := some (.int r)) (k := 0) E mvX9_text mlL_32 (by decide) rfl rfl rfl (ctX9_text (yl (zY Z)) (gZ Z adY)  MY (r, MY1) h2) rfl (Nat.le_of_ble_eq_true rfl) ⟨by rw [hR]; exact Nat.le_of_ble_eq_true rfl, by rw [hR]; exact Nat.le_of_ble_eq_true rfl⟩ ⟨by rw [hR]; exact Nat.le_of_ble_eq_true rfl, by rw [hR]; exact Nat.le_of_ble_eq_true rfl⟩ dL_law_336 ?_
  exact an_icmp_eq (tgt := 1417) E dL_law_339 (by decide) (fun _ => kk MX1 MY1 h3) (fun z => absurd rfl z)
theorem la_force (h : LZ Z b n xs) (hi : i + 7 ≤ n) (hs : Sim MX MY) (kk : ∀ MX1 MY1, Sim MX1 MY1 → AN Z 4 75 184778 1417 (LL b i adX adY) [] (WB Z adX adY MX1 MY1)) : AN Z 4 75 184778 344 (LL b i adX adY) [] (WB Z adX adY MX MY) := by
  obtain ⟨hR, E, hX, hb, hA, hn⟩ := id h
  obtain ⟨r, MX1, MY1, h1, h2, h3⟩ := eq_force hs (xs (i + 1))
  refine an_swap ?_
  refine an_aload_n E dL_law_344 2 rfl ?_
  refine an_arg h (k := 1) (by omega) dL_law_345 dL_law_346 (fun _ _ h => an_iconst (v := nI 1) E dL_law_347 (by decide) h) dL_law_348 dL_law_349 ?_
  refine an_callV (As := [.int (xs (i + 1))]) (S := []) (v := some (.int r)) (k := 0) E mvX8_force mlL_33 (by decide) rfl rfl rfl (ctX8_force (yl (zY Z)) (gZ Z adX) _ MX (r, MX1) h1) rfl (Nat.le_of_ble_eq_true rfl) ⟨by rw [hR]; exact Nat.le_of_ble_eq_true rfl, by rw [hR]; exact Nat.le_of_ble_eq_true rfl⟩ ⟨by rw [hR]; exact Nat.le_of_ble_eq_true rfl, by rw [hR]; exact Nat.le_of_ble_eq_true rfl⟩ dL_law_350 ?_
  refine an_swap ?_
  refine an_aload_n E dL_law_353 1 rfl ?_
  refine an_arg h (k := 1) (by omega) dL_law_354 dL_law_355 (fun _ _ h => an_iconst (v := nI 1) E dL_law_356 (by decide) h) dL_law_357 dL_law_358 ?_
  refine an_callV (As := [.int (xs (i + 1))]) (S := [.int r]) (v := some (.int r)) (k := 0) E mvX9_force mlL_36 (by decide) rfl rfl rfl (ctX9_force (yl (zY Z)) (gZ Z adY) _ MY (r, MY1) h2) rfl (Nat.le_of_ble_eq_true rfl) ⟨by rw [hR]; exact Nat.le_of_ble_eq_true rfl, by rw [hR]; exact Nat.le_of_ble_eq_true rfl⟩ ⟨by rw [hR]; exact Nat.le_of_ble_eq_true rfl, by rw [hR]; exact Nat.le_of_ble_eq_true rfl⟩ dL_law_359 ?_
  exact an_icmp_eq (tgt := 1417) E dL_law_362 (by decide) (fun _ => kk MX1 MY1 h3) (fun z => absurd rfl z)
theorem la_street (h : LZ Z b n xs) (hi : i + 7 ≤ n) (hs : Sim MX MY) (kk : ∀ MX1 MY1, Sim MX1 MY1 → AN Z 4 75 184778 1417 (LL b i adX adY) [] (WB Z adX adY MX1 MY1)) : AN Z 4 75 184778 367 (LL b i adX adY) [] (WB Z adX adY MX MY) := by
  obtain ⟨hR, E, hX, hb, hA, hn⟩ := id h
  obtain ⟨r, MX1, MY1, h1, h2, h3⟩ := eq_street hs (xs (i + 1)) (xs (i + 2)) (xs (i + 3)) (xs (i + 4))
  refine an_swap ?_
  refine an_aload_n E dL_law_367 2 rfl ?_
  refine an_arg h (k := 1) (by omega) dL_law_368 dL_law_369 (fun _ _ h => an_iconst (v := nI 1) E dL_law_370 (by decide) h) dL_law_371 dL_law_372 ?_
  refine an_arg h (k := 2) (by omega) dL_law_373 dL_law_374 (fun _ _ h => an_iconst (v := nI 2) E dL_law_375 (by decide) h) dL_law_376 dL_law_377 ?_
  refine an_arg h (k := 3) (by omega) dL_law_378 dL_law_379 (fun _ _ h => an_iconst (v := nI 3) E dL_law_380 (by decide) h) dL_law_381 dL_law_382 ?_
  refine an_arg h (k := 4) (by omega) dL_law_383 dL_law_384 (fun _ _ h => an_iconst (v := nI 4) E dL_law_385 (by decide) h) dL_law_386 dL_law_387 ?_
  refine an_callV (As := [.int (xs (i + 1)), .int (xs (i + 2)), .int (xs (i + 3)), .int (xs (i + 4))]) (S := []) (v := some (.int r)) (k := 0) E mvX8_street mlL_37 (by decide) rfl rfl rfl (ctX8_street (yl (zY Z)) (gZ Z adX) _ _ _ _ MX (r, MX1) h1) rfl (Nat.le_of_ble_eq_true rfl) ⟨by rw [hR]; exact Nat.le_of_ble_eq_true rfl, by rw [hR]; exact Nat.le_of_ble_eq_true rfl⟩ ⟨by rw [hR]; exact Nat.le_of_ble_eq_true rfl, by rw [hR]; exact Nat.le_of_ble_eq_true rfl⟩ dL_law_388 ?_
  refine an_swap ?_
  refine an_aload_n E dL_law_391 1 rfl ?_
  refine an_arg h (k := 1) (by omega) dL_law_392 dL_law_393 (fun _ _ h => an_iconst (v := nI 1) E dL_law_394 (by decide) h) dL_law_395 dL_law_396 ?_
  refine an_arg h (k := 2) (by omega) dL_law_397 dL_law_398 (fun _ _ h => an_iconst (v := nI 2) E dL_law_399 (by decide) h) dL_law_400 dL_law_401 ?_
  refine an_arg h (k := 3) (by omega) dL_law_402 dL_law_403 (fun _ _ h => an_iconst (v := nI 3) E dL_law_404 (by decide) h) dL_law_405 dL_law_406 ?_
  refine an_arg h (k := 4) (by omega) dL_law_407 dL_law_408 (fun _ _ h => an_iconst (v := nI 4) E dL_law_409 (by decide) h) dL_law_410 dL_law_411 ?_
  refine an_callV (As := [.int (xs (i + 1)), .int (xs (i + 2)), .int (xs (i + 3)), .int (xs (i + 4))]) (S := [.int r]) (v := some (.int r)) (k := 0) E mvX9_street mlL_41 (by decide) rfl rfl rfl (ctX9_street (yl (zY Z)) (gZ Z adY) _ _ _ _ MY (r, MY1) h2) rfl (Nat.le_of_ble_eq_true rfl) ⟨by rw [hR]; exact Nat.le_of_ble_eq_true rfl, by rw [hR]; exact Nat.le_of_ble_eq_true rfl⟩ ⟨by rw [hR]; exact Nat.le_of_ble_eq_true rfl, by rw [hR]; exact Nat.le_of_ble_eq_true rfl⟩ dL_law_412 ?_
  exact an_icmp_eq (tgt := 1417) E dL_law_415 (by decide) (fun _ => kk MX1 MY1 h3) (fun z => absurd rfl z)
theorem la_close (h : LZ Z b n xs) (hi : i + 7 ≤ n) (hs : Sim MX MY) (kk : ∀ MX1 MY1, Sim MX1 MY1 → AN Z 4 75 184778 1417 (LL b i adX adY) [] (WB Z adX adY MX1 MY1)) : AN Z 4 75 184778 420 (LL b i adX adY) [] (WB Z adX adY MX MY) := by
  obtain ⟨hR, E, hX, hb, hA, hn⟩ := id h
  obtain ⟨r, MX1, MY1, h1, h2, h3⟩ := eq_close hs 
  refine an_swap ?_
  refine an_aload_n E dL_law_420 2 rfl ?_
  refine an_callV (As := []) (S := []) (v := some (.int r)) (k := 0) E mvX8_close mlL_42 (by decide) rfl rfl rfl (ctX8_close (yl (zY Z)) (gZ Z adX)  MX (r, MX1) h1) rfl (Nat.le_of_ble_eq_true rfl) ⟨by rw [hR]; exact Nat.le_of_ble_eq_true rfl, by rw [hR]; exact Nat.le_of_ble_eq_true rfl⟩ ⟨by rw [hR]; exact Nat.le_of_ble_eq_true rfl, by rw [hR]; exact Nat.le_of_ble_eq_true rfl⟩ dL_law_421 ?_
  refine an_swap ?_
  refine an_aload_n E dL_law_424 1 rfl ?_
  refine an_callV (As := []) (S := [.int r]) (v := some (.int r)) (k := 0) E mvX9_close mlL_45 (by decide) rfl rfl rfl (ctX9_close (yl (zY Z)) (gZ Z adY)  MY (r, MY1) h2) rfl (Nat.le_of_ble_eq_true rfl) ⟨by rw [hR]; exact Nat.le_of_ble_eq_true rfl, by rw [hR]; exact Nat.le_of_ble_eq_true rfl⟩ ⟨by rw [hR]; exact Nat.le_of_ble_eq_true rfl, by rw [hR]; exact Nat.le_of_ble_eq_true rfl⟩ dL_law_425 ?_
  exact an_icmp_eq (tgt := 1417) E dL_law_428 (by decide) (fun _ => kk MX1 MY1 h3) (fun z => absurd rfl z)
theorem la_told (h : LZ Z b n xs) (hi : i + 7 ≤ n) (hs : Sim MX MY) (kk : ∀ MX1 MY1, Sim MX1 MY1 → AN Z 4 75 184778 1417 (LL b i adX adY) [] (WB Z adX adY MX1 MY1)) : AN Z 4 75 184778 433 (LL b i adX adY) [] (WB Z adX adY MX MY) := by
  obtain ⟨hR, E, hX, hb, hA, hn⟩ := id h
  obtain ⟨r, h1, h2⟩ := eq_told hs (xs (i + 1)) (xs (i + 2))
  refine an_swap ?_
  refine an_aload_n E dL_law_433 2 rfl ?_
  refine an_arg h (k := 1) (by omega) dL_law_434 dL_law_435 (fun _ _ h => an_iconst (v := nI 1) E dL_law_436 (by decide) h) dL_law_437 dL_law_438 ?_
  refine an_arg h (k := 2) (by omega) dL_law_439 dL_law_440 (fun _ _ h => an_iconst (v := nI 2) E dL_law_441 (by decide) h) dL_law_442 dL_law_443 ?_
  refine an_callV (As := [.int (xs (i + 1)), .int (xs (i + 2))]) (S := []) (v := some (.int r)) (k := 0) E mvX8_told mlL_46 (by decide) rfl rfl rfl (ctX8_told (yl (zY Z)) (gZ Z adX) _ _ MX r h1) rfl (Nat.le_of_ble_eq_true rfl) ⟨by rw [hR]; exact Nat.le_of_ble_eq_true rfl, by rw [hR]; exact Nat.le_of_ble_eq_true rfl⟩ ⟨by rw [hR]; exact Nat.le_of_ble_eq_true rfl, by rw [hR]; exact Nat.le_of_ble_eq_true rfl⟩ dL_law_444 ?_
  refine an_swap ?_
  refine an_aload_n E dL_law_447 1 rfl ?_
  refine an_arg h (k := 1) (by omega) dL_law_448 dL_law_449 (fun _ _ h => an_iconst (v := nI 1) E dL_law_450 (by decide) h) dL_law_451 dL_law_452 ?_
  refine an_arg h (k := 2) (by omega) dL_law_453 dL_law_454 (fun _ _ h => an_iconst (v := nI 2) E dL_law_455 (by decide) h) dL_law_456 dL_law_457 ?_
  refine an_callV (As := [.int (xs (i + 1)), .int (xs (i + 2))]) (S := [.int r]) (v := some (.int r)) (k := 0) E mvX9_told mlL_49 (by decide) rfl rfl rfl (ctX9_told (yl (zY Z)) (gZ Z adY) _ _ MY r h2) rfl (Nat.le_of_ble_eq_true rfl) ⟨by rw [hR]; exact Nat.le_of_ble_eq_true rfl, by rw [hR]; exact Nat.le_of_ble_eq_true rfl⟩ ⟨by rw [hR]; exact Nat.le_of_ble_eq_true rfl, by rw [hR]; exact Nat.le_of_ble_eq_true rfl⟩ dL_law_458 ?_
  exact an_icmp_eq (tgt := 1417) E dL_law_461 (by decide) (fun _ => kk MX MY hs) (fun z => absurd rfl z)
theorem la_gone (h : LZ Z b n xs) (hi : i + 7 ≤ n) (hs : Sim MX MY) (kk : ∀ MX1 MY1, Sim MX1 MY1 → AN Z 4 75 184778 1417 (LL b i adX adY) [] (WB Z adX adY MX1 MY1)) : AN Z 4 75 184778 466 (LL b i adX adY) [] (WB Z adX adY MX MY) := by
  obtain ⟨hR, E, hX, hb, hA, hn⟩ := id h
  obtain ⟨r, MX1, MY1, h1, h2, h3⟩ := eq_gone hs (xs (i + 1))
  refine an_swap ?_
  refine an_aload_n E dL_law_466 2 rfl ?_
  refine an_arg h (k := 1) (by omega) dL_law_467 dL_law_468 (fun _ _ h => an_iconst (v := nI 1) E dL_law_469 (by decide) h) dL_law_470 dL_law_471 ?_
  refine an_callV (As := [.int (xs (i + 1))]) (S := []) (v := some (.int r)) (k := 0) E mvX8_gone mlL_50 (by decide) rfl rfl rfl (ctX8_gone (yl (zY Z)) (gZ Z adX) _ MX (r, MX1) h1) rfl (Nat.le_of_ble_eq_true rfl) ⟨by rw [hR]; exact Nat.le_of_ble_eq_true rfl, by rw [hR]; exact Nat.le_of_ble_eq_true rfl⟩ ⟨by rw [hR]; exact Nat.le_of_ble_eq_true rfl, by rw [hR]; exact Nat.le_of_ble_eq_true rfl⟩ dL_law_472 ?_
  refine an_swap ?_
  refine an_aload_n E dL_law_475 1 rfl ?_
  refine an_arg h (k := 1) (by omega) dL_law_476 dL_law_477 (fun _ _ h => an_iconst (v := nI 1) E dL_law_478 (by decide) h) dL_law_479 dL_law_480 ?_
  refine an_callV (As := [.int (xs (i + 1))]) (S := [.int r]) (v := some (.int r)) (k := 0) E mvX9_gone mlL_53 (by decide) rfl rfl rfl (ctX9_gone (yl (zY Z)) (gZ Z adY) _ MY (r, MY1) h2) rfl (Nat.le_of_ble_eq_true rfl) ⟨by rw [hR]; exact Nat.le_of_ble_eq_true rfl, by rw [hR]; exact Nat.le_of_ble_eq_true rfl⟩ ⟨by rw [hR]; exact Nat.le_of_ble_eq_true rfl, by rw [hR]; exact Nat.le_of_ble_eq_true rfl⟩ dL_law_481 ?_
  exact an_icmp_eq (tgt := 1417) E dL_law_484 (by decide) (fun _ => kk MX1 MY1 h3) (fun z => absurd rfl z)
theorem la_asks (h : LZ Z b n xs) (hi : i + 7 ≤ n) (hs : Sim MX MY) (kk : ∀ MX1 MY1, Sim MX1 MY1 → AN Z 4 75 184778 1417 (LL b i adX adY) [] (WB Z adX adY MX1 MY1)) : AN Z 4 75 184778 489 (LL b i adX adY) [] (WB Z adX adY MX MY) := by
  obtain ⟨hR, E, hX, hb, hA, hn⟩ := id h
  obtain ⟨r, MX1, MY1, h1, h2, h3⟩ := eq_asks hs (xs (i + 1)) (xs (i + 2)) (xs (i + 3))
  refine an_swap ?_
  refine an_aload_n E dL_law_489 2 rfl ?_
  refine an_arg h (k := 1) (by omega) dL_law_490 dL_law_491 (fun _ _ h => an_iconst (v := nI 1) E dL_law_492 (by decide) h) dL_law_493 dL_law_494 ?_
  refine an_arg h (k := 2) (by omega) dL_law_495 dL_law_496 (fun _ _ h => an_iconst (v := nI 2) E dL_law_497 (by decide) h) dL_law_498 dL_law_499 ?_
  refine an_arg h (k := 3) (by omega) dL_law_500 dL_law_501 (fun _ _ h => an_iconst (v := nI 3) E dL_law_502 (by decide) h) dL_law_503 dL_law_504 ?_
  refine an_callV (As := [.int (xs (i + 1)), .int (xs (i + 2)), .int (xs (i + 3))]) (S := []) (v := some (.int r)) (k := 0) E mvX8_asks mlL_54 (by decide) rfl rfl rfl (ctX8_asks (yl (zY Z)) (gZ Z adX) _ _ _ MX (r, MX1) h1) rfl (Nat.le_of_ble_eq_true rfl) ⟨by rw [hR]; exact Nat.le_of_ble_eq_true rfl, by rw [hR]; exact Nat.le_of_ble_eq_true rfl⟩ ⟨by rw [hR]; exact Nat.le_of_ble_eq_true rfl, by rw [hR]; exact Nat.le_of_ble_eq_true rfl⟩ dL_law_505 ?_
  refine an_swap ?_
  refine an_aload_n E dL_law_508 1 rfl ?_
  refine an_arg h (k := 1) (by omega) dL_law_509 dL_law_510 (fun _ _ h => an_iconst (v := nI 1) E dL_law_511 (by decide) h) dL_law_512 dL_law_513 ?_
  refine an_arg h (k := 2) (by omega) dL_law_514 dL_law_515 (fun _ _ h => an_iconst (v := nI 2) E dL_law_516 (by decide) h) dL_law_517 dL_law_518 ?_
  refine an_arg h (k := 3) (by omega) dL_law_519 dL_law_520 (fun _ _ h => an_iconst (v := nI 3) E dL_law_521 (by decide) h) dL_law_522 dL_law_523 ?_
  refine an_callV (As := [.int (xs (i + 1)), .int (xs (i + 2)), .int (xs (i + 3))]) (S := [.int r]) (v := some (.int r)) (k := 0) E mvX9_asks mlL_58 (by decide) rfl rfl rfl (ctX9_asks (yl (zY Z)) (gZ Z adY) _ _ _ MY (r, MY1) h2) rfl (Nat.le_of_ble_eq_true rfl) ⟨by rw [hR]; exact Nat.le_of_ble_eq_true rfl, by rw [hR]; exact Nat.le_of_ble_eq_true rfl⟩ ⟨by rw [hR]; exact Nat.le_of_ble_eq_true rfl, by rw [hR]; exact Nat.le_of_ble_eq_true rfl⟩ dL_law_524 ?_
  exact an_icmp_eq (tgt := 1417) E dL_law_527 (by decide) (fun _ => kk MX1 MY1 h3) (fun z => absurd rfl z)
theorem la_ring (h : LZ Z b n xs) (hi : i + 7 ≤ n) (hs : Sim MX MY) (kk : ∀ MX1 MY1, Sim MX1 MY1 → AN Z 4 75 184778 1417 (LL b i adX adY) [] (WB Z adX adY MX1 MY1)) : AN Z 4 75 184778 532 (LL b i adX adY) [] (WB Z adX adY MX MY) := by
  obtain ⟨hR, E, hX, hb, hA, hn⟩ := id h
  obtain ⟨r, MX1, MY1, h1, h2, h3⟩ := eq_ring hs (xs (i + 1)) (xs (i + 2))
  refine an_swap ?_
  refine an_aload_n E dL_law_532 2 rfl ?_
  refine an_arg h (k := 1) (by omega) dL_law_533 dL_law_534 (fun _ _ h => an_iconst (v := nI 1) E dL_law_535 (by decide) h) dL_law_536 dL_law_537 ?_
  refine an_arg h (k := 2) (by omega) dL_law_538 dL_law_539 (fun _ _ h => an_iconst (v := nI 2) E dL_law_540 (by decide) h) dL_law_541 dL_law_542 ?_
  refine an_callV (As := [.int (xs (i + 1)), .int (xs (i + 2))]) (S := []) (v := some (.int r)) (k := 0) E mvX8_ring mlL_59 (by decide) rfl rfl rfl (ctX8_ring (yl (zY Z)) (gZ Z adX) _ _ MX (r, MX1) h1) rfl (Nat.le_of_ble_eq_true rfl) ⟨by rw [hR]; exact Nat.le_of_ble_eq_true rfl, by rw [hR]; exact Nat.le_of_ble_eq_true rfl⟩ ⟨by rw [hR]; exact Nat.le_of_ble_eq_true rfl, by rw [hR]; exact Nat.le_of_ble_eq_true rfl⟩ dL_law_543 ?_
  refine an_swap ?_
  refine an_aload_n E dL_law_546 1 rfl ?_
  refine an_arg h (k := 1) (by omega) dL_law_547 dL_law_548 (fun _ _ h => an_iconst (v := nI 1) E dL_law_549 (by decide) h) dL_law_550 dL_law_551 ?_
  refine an_arg h (k := 2) (by omega) dL_law_552 dL_law_553 (fun _ _ h => an_iconst (v := nI 2) E dL_law_554 (by decide) h) dL_law_555 dL_law_556 ?_
  refine an_callV (As := [.int (xs (i + 1)), .int (xs (i + 2))]) (S := [.int r]) (v := some (.int r)) (k := 0) E mvX9_ring mlL_62 (by decide) rfl rfl rfl (ctX9_ring (yl (zY Z)) (gZ Z adY) _ _ MY (r, MY1) h2) rfl (Nat.le_of_ble_eq_true rfl) ⟨by rw [hR]; exact Nat.le_of_ble_eq_true rfl, by rw [hR]; exact Nat.le_of_ble_eq_true rfl⟩ ⟨by rw [hR]; exact Nat.le_of_ble_eq_true rfl, by rw [hR]; exact Nat.le_of_ble_eq_true rfl⟩ dL_law_557 ?_
  exact an_icmp_eq (tgt := 1417) E dL_law_560 (by decide) (fun _ => kk MX1 MY1 h3) (fun z => absurd rfl z)
theorem la_heavy (h : LZ Z b n xs) (hi : i + 7 ≤ n) (hs : Sim MX MY) (kk : ∀ MX1 MY1, Sim MX1 MY1 → AN Z 4 75 184778 1417 (LL b i adX adY) [] (WB Z adX adY MX1 MY1)) : AN Z 4 75 184778 565 (LL b i adX adY) [] (WB Z adX adY MX MY) := by
  obtain ⟨hR, E, hX, hb, hA, hn⟩ := id h
  obtain ⟨r, MX1, MY1, h1, h2, h3⟩ := eq_heavy hs (xs (i + 1)) (xs (i + 2))
  refine an_swap ?_
  refine an_aload_n E dL_law_565 2 rfl ?_
  refine an_arg h (k := 1) (by omega) dL_law_566 dL_law_567 (fun _ _ h => an_iconst (v := nI 1) E dL_law_568 (by decide) h) dL_law_569 dL_law_570 ?_
  refine an_arg h (k := 2) (by omega) dL_law_571 dL_law_572 (fun _ _ h => an_iconst (v := nI 2) E dL_law_573 (by decide) h) dL_law_574 dL_law_575 ?_
  refine an_callV (As := [.int (xs (i + 1)), .int (xs (i + 2))]) (S := []) (v := some (.int r)) (k := 0) E mvX8_heavy mlL_63 (by decide) rfl rfl rfl (ctX8_heavy (yl (zY Z)) (gZ Z adX) _ _ MX (r, MX1) h1) rfl (Nat.le_of_ble_eq_true rfl) ⟨by rw [hR]; exact Nat.le_of_ble_eq_true rfl, by rw [hR]; exact Nat.le_of_ble_eq_true rfl⟩ ⟨by rw [hR]; exact Nat.le_of_ble_eq_true rfl, by rw [hR]; exact Nat.le_of_ble_eq_true rfl⟩ dL_law_576 ?_
  refine an_swap ?_
  refine an_aload_n E dL_law_579 1 rfl ?_
  refine an_arg h (k := 1) (by omega) dL_law_580 dL_law_581 (fun _ _ h => an_iconst (v := nI 1) E dL_law_582 (by decide) h) dL_law_583 dL_law_584 ?_
  refine an_arg h (k := 2) (by omega) dL_law_585 dL_law_586 (fun _ _ h => an_iconst (v := nI 2) E dL_law_587 (by decide) h) dL_law_588 dL_law_589 ?_
  refine an_callV (As := [.int (xs (i + 1)), .int (xs (i + 2))]) (S := [.int r]) (v := some (.int r)) (k := 0) E mvX9_heavy mlL_66 (by decide) rfl rfl rfl (ctX9_heavy (yl (zY Z)) (gZ Z adY) _ _ MY (r, MY1) h2) rfl (Nat.le_of_ble_eq_true rfl) ⟨by rw [hR]; exact Nat.le_of_ble_eq_true rfl, by rw [hR]; exact Nat.le_of_ble_eq_true rfl⟩ ⟨by rw [hR]; exact Nat.le_of_ble_eq_true rfl, by rw [hR]; exact Nat.le_of_ble_eq_true rfl⟩ dL_law_590 ?_
  exact an_icmp_eq (tgt := 1417) E dL_law_593 (by decide) (fun _ => kk MX1 MY1 h3) (fun z => absurd rfl z)
theorem la_gap (h : LZ Z b n xs) (hi : i + 7 ≤ n) (hs : Sim MX MY) (kk : ∀ MX1 MY1, Sim MX1 MY1 → AN Z 4 75 184778 1417 (LL b i adX adY) [] (WB Z adX adY MX1 MY1)) : AN Z 4 75 184778 598 (LL b i adX adY) [] (WB Z adX adY MX MY) := by
  obtain ⟨hR, E, hX, hb, hA, hn⟩ := id h
  obtain ⟨r, MX1, MY1, h1, h2, h3⟩ := eq_gap hs (xs (i + 1))
  refine an_swap ?_
  refine an_aload_n E dL_law_598 2 rfl ?_
  refine an_arg h (k := 1) (by omega) dL_law_599 dL_law_600 (fun _ _ h => an_iconst (v := nI 1) E dL_law_601 (by decide) h) dL_law_602 dL_law_603 ?_
  refine an_callV (As := [.int (xs (i + 1))]) (S := []) (v := some (.int r)) (k := 0) E mvX8_gap mlL_67 (by decide) rfl rfl rfl (ctX8_gap (yl (zY Z)) (gZ Z adX) _ MX (r, MX1) h1) rfl (Nat.le_of_ble_eq_true rfl) ⟨by rw [hR]; exact Nat.le_of_ble_eq_true rfl, by rw [hR]; exact Nat.le_of_ble_eq_true rfl⟩ ⟨by rw [hR]; exact Nat.le_of_ble_eq_true rfl, by rw [hR]; exact Nat.le_of_ble_eq_true rfl⟩ dL_law_604 ?_
  refine an_swap ?_
  refine an_aload_n E dL_law_607 1 rfl ?_
  refine an_arg h (k := 1) (by omega) dL_law_608 dL_law_609 (fun _ _ h => an_iconst (v := nI 1) E dL_law_610 (by decide) h) dL_law_611 dL_law_612 ?_
  refine an_callV (As := [.int (xs (i + 1))]) (S := [.int r]) (v := some (.int r)) (k := 0) E mvX9_gap mlL_70 (by decide) rfl rfl rfl (ctX9_gap (yl (zY Z)) (gZ Z adY) _ MY (r, MY1) h2) rfl (Nat.le_of_ble_eq_true rfl) ⟨by rw [hR]; exact Nat.le_of_ble_eq_true rfl, by rw [hR]; exact Nat.le_of_ble_eq_true rfl⟩ ⟨by rw [hR]; exact Nat.le_of_ble_eq_true rfl, by rw [hR]; exact Nat.le_of_ble_eq_true rfl⟩ dL_law_613 ?_
  exact an_icmp_eq (tgt := 1417) E dL_law_616 (by decide) (fun _ => kk MX1 MY1 h3) (fun z => absurd rfl z)
theorem la_calls (h : LZ Z b n xs) (hi : i + 7 ≤ n) (hs : Sim MX MY) (kk : ∀ MX1 MY1, Sim MX1 MY1 → AN Z 4 75 184778 1417 (LL b i adX adY) [] (WB Z adX adY MX1 MY1)) : AN Z 4 75 184778 621 (LL b i adX adY) [] (WB Z adX adY MX MY) := by
  obtain ⟨hR, E, hX, hb, hA, hn⟩ := id h
  obtain ⟨r, MX1, MY1, h1, h2, h3⟩ := eq_calls hs (xs (i + 1)) (xs (i + 2)) (xs (i + 3))
  refine an_swap ?_
  refine an_aload_n E dL_law_621 2 rfl ?_
  refine an_arg h (k := 1) (by omega) dL_law_622 dL_law_623 (fun _ _ h => an_iconst (v := nI 1) E dL_law_624 (by decide) h) dL_law_625 dL_law_626 ?_
  refine an_arg h (k := 2) (by omega) dL_law_627 dL_law_628 (fun _ _ h => an_iconst (v := nI 2) E dL_law_629 (by decide) h) dL_law_630 dL_law_631 ?_
  refine an_arg h (k := 3) (by omega) dL_law_632 dL_law_633 (fun _ _ h => an_iconst (v := nI 3) E dL_law_634 (by decide) h) dL_law_635 dL_law_636 ?_
  refine an_callV (As := [.int (xs (i + 1)), .int (xs (i + 2)), .int (xs (i + 3))]) (S := []) (v := some (.int r)) (k := 0) E mvX8_calls mlL_71 (by decide) rfl rfl rfl (ctX8_calls (yl (zY Z)) (gZ Z adX) _ _ _ MX (r, MX1) h1) rfl (Nat.le_of_ble_eq_true rfl) ⟨by rw [hR]; exact Nat.le_of_ble_eq_true rfl, by rw [hR]; exact Nat.le_of_ble_eq_true rfl⟩ ⟨by rw [hR]; exact Nat.le_of_ble_eq_true rfl, by rw [hR]; exact Nat.le_of_ble_eq_true rfl⟩ dL_law_637 ?_
  refine an_swap ?_
  refine an_aload_n E dL_law_640 1 rfl ?_
  refine an_arg h (k := 1) (by omega) dL_law_641 dL_law_642 (fun _ _ h => an_iconst (v := nI 1) E dL_law_643 (by decide) h) dL_law_644 dL_law_645 ?_
  refine an_arg h (k := 2) (by omega) dL_law_646 dL_law_647 (fun _ _ h => an_iconst (v := nI 2) E dL_law_648 (by decide) h) dL_law_649 dL_law_650 ?_
  refine an_arg h (k := 3) (by omega) dL_law_651 dL_law_652 (fun _ _ h => an_iconst (v := nI 3) E dL_law_653 (by decide) h) dL_law_654 dL_law_655 ?_
  refine an_callV (As := [.int (xs (i + 1)), .int (xs (i + 2)), .int (xs (i + 3))]) (S := [.int r]) (v := some (.int r)) (k := 0) E mvX9_calls mlL_74 (by decide) rfl rfl rfl (ctX9_calls (yl (zY Z)) (gZ Z adY) _ _ _ MY (r, MY1) h2) rfl (Nat.le_of_ble_eq_true rfl) ⟨by rw [hR]; exact Nat.le_of_ble_eq_true rfl, by rw [hR]; exact Nat.le_of_ble_eq_true rfl⟩ ⟨by rw [hR]; exact Nat.le_of_ble_eq_true rfl, by rw [hR]; exact Nat.le_of_ble_eq_true rfl⟩ dL_law_656 ?_
  exact an_icmp_eq (tgt := 1417) E dL_law_659 (by decide) (fun _ => kk MX1 MY1 h3) (fun z => absurd rfl z)
theorem la_two (h : LZ Z b n xs) (hi : i + 7 ≤ n) (hs : Sim MX MY) (kk : ∀ MX1 MY1, Sim MX1 MY1 → AN Z 4 75 184778 1417 (LL b i adX adY) [] (WB Z adX adY MX1 MY1)) : AN Z 4 75 184778 664 (LL b i adX adY) [] (WB Z adX adY MX MY) := by
  obtain ⟨hR, E, hX, hb, hA, hn⟩ := id h
  obtain ⟨r, MX1, MY1, h1, h2, h3⟩ := eq_two hs (xs (i + 1)) (xs (i + 2)) (xs (i + 3))
  refine an_swap ?_
  refine an_aload_n E dL_law_664 2 rfl ?_
  refine an_arg h (k := 1) (by omega) dL_law_665 dL_law_666 (fun _ _ h => an_iconst (v := nI 1) E dL_law_667 (by decide) h) dL_law_668 dL_law_669 ?_
  refine an_arg h (k := 2) (by omega) dL_law_670 dL_law_671 (fun _ _ h => an_iconst (v := nI 2) E dL_law_672 (by decide) h) dL_law_673 dL_law_674 ?_
  refine an_arg h (k := 3) (by omega) dL_law_675 dL_law_676 (fun _ _ h => an_iconst (v := nI 3) E dL_law_677 (by decide) h) dL_law_678 dL_law_679 ?_
  refine an_callV (As := [.int (xs (i + 1)), .int (xs (i + 2)), .int (xs (i + 3))]) (S := []) (v := some (.int r)) (k := 0) E mvX8_two mlL_75 (by decide) rfl rfl rfl (ctX8_two (yl (zY Z)) (gZ Z adX) _ _ _ MX (r, MX1) h1) rfl (Nat.le_of_ble_eq_true rfl) ⟨by rw [hR]; exact Nat.le_of_ble_eq_true rfl, by rw [hR]; exact Nat.le_of_ble_eq_true rfl⟩ ⟨by rw [hR]; exact Nat.le_of_ble_eq_true rfl, by rw [hR]; exact Nat.le_of_ble_eq_true rfl⟩ dL_law_680 ?_
  refine an_swap ?_
  refine an_aload_n E dL_law_683 1 rfl ?_
  refine an_arg h (k := 1) (by omega) dL_law_684 dL_law_685 (fun _ _ h => an_iconst (v := nI 1) E dL_law_686 (by decide) h) dL_law_687 dL_law_688 ?_
  refine an_arg h (k := 2) (by omega) dL_law_689 dL_law_690 (fun _ _ h => an_iconst (v := nI 2) E dL_law_691 (by decide) h) dL_law_692 dL_law_693 ?_
  refine an_arg h (k := 3) (by omega) dL_law_694 dL_law_695 (fun _ _ h => an_iconst (v := nI 3) E dL_law_696 (by decide) h) dL_law_697 dL_law_698 ?_
  refine an_callV (As := [.int (xs (i + 1)), .int (xs (i + 2)), .int (xs (i + 3))]) (S := [.int r]) (v := some (.int r)) (k := 0) E mvX9_two mlL_78 (by decide) rfl rfl rfl (ctX9_two (yl (zY Z)) (gZ Z adY) _ _ _ MY (r, MY1) h2) rfl (Nat.le_of_ble_eq_true rfl) ⟨by rw [hR]; exact Nat.le_of_ble_eq_true rfl, by rw [hR]; exact Nat.le_of_ble_eq_true rfl⟩ ⟨by rw [hR]; exact Nat.le_of_ble_eq_true rfl, by rw [hR]; exact Nat.le_of_ble_eq_true rfl⟩ dL_law_699 ?_
  exact an_icmp_eq (tgt := 1417) E dL_law_702 (by decide) (fun _ => kk MX1 MY1 h3) (fun z => absurd rfl z)
theorem la_round (h : LZ Z b n xs) (hi : i + 7 ≤ n) (hs : Sim MX MY) (kk : ∀ MX1 MY1, Sim MX1 MY1 → AN Z 4 75 184778 1417 (LL b i adX adY) [] (WB Z adX adY MX1 MY1)) : AN Z 4 75 184778 707 (LL b i adX adY) [] (WB Z adX adY MX MY) := by
  obtain ⟨hR, E, hX, hb, hA, hn⟩ := id h
  obtain ⟨r, MX1, MY1, h1, h2, h3⟩ := eq_round hs (xs (i + 1))
  refine an_swap ?_
  refine an_aload_n E dL_law_707 2 rfl ?_
  refine an_arg h (k := 1) (by omega) dL_law_708 dL_law_709 (fun _ _ h => an_iconst (v := nI 1) E dL_law_710 (by decide) h) dL_law_711 dL_law_712 ?_
  refine an_callV (As := [.int (xs (i + 1))]) (S := []) (v := some (.int r)) (k := 0) E mvX8_round mlL_79 (by decide) rfl rfl rfl (ctX8_round (yl (zY Z)) (gZ Z adX) _ MX (r, MX1) h1) rfl (Nat.le_of_ble_eq_true rfl) ⟨by rw [hR]; exact Nat.le_of_ble_eq_true rfl, by rw [hR]; exact Nat.le_of_ble_eq_true rfl⟩ ⟨by rw [hR]; exact Nat.le_of_ble_eq_true rfl, by rw [hR]; exact Nat.le_of_ble_eq_true rfl⟩ dL_law_713 ?_
  refine an_swap ?_
  refine an_aload_n E dL_law_716 1 rfl ?_
  refine an_arg h (k := 1) (by omega) dL_law_717 dL_law_718 (fun _ _ h => an_iconst (v := nI 1) E dL_law_719 (by decide) h) dL_law_720 dL_law_721 ?_
  refine an_callV (As := [.int (xs (i + 1))]) (S := [.int r]) (v := some (.int r)) (k := 0) E mvX9_round mlL_82 (by decide) rfl rfl rfl (ctX9_round (yl (zY Z)) (gZ Z adY) _ MY (r, MY1) h2) rfl (Nat.le_of_ble_eq_true rfl) ⟨by rw [hR]; exact Nat.le_of_ble_eq_true rfl, by rw [hR]; exact Nat.le_of_ble_eq_true rfl⟩ ⟨by rw [hR]; exact Nat.le_of_ble_eq_true rfl, by rw [hR]; exact Nat.le_of_ble_eq_true rfl⟩ dL_law_722 ?_
  exact an_icmp_eq (tgt := 1417) E dL_law_725 (by decide) (fun _ => kk MX1 MY1 h3) (fun z => absurd rfl z)
theorem la_never (h : LZ Z b n xs) (hi : i + 7 ≤ n) (hs : Sim MX MY) (kk : ∀ MX1 MY1, Sim MX1 MY1 → AN Z 4 75 184778 1417 (LL b i adX adY) [] (WB Z adX adY MX1 MY1)) : AN Z 4 75 184778 730 (LL b i adX adY) [] (WB Z adX adY MX MY) := by
  obtain ⟨hR, E, hX, hb, hA, hn⟩ := id h
  obtain ⟨r, MX1, MY1, h1, h2, h3⟩ := eq_never hs (xs (i + 1))
  refine an_swap ?_
  refine an_aload_n E dL_law_730 2 rfl ?_
  refine an_arg h (k := 1) (by omega) dL_law_731 dL_law_732 (fun _ _ h => an_iconst (v := nI 1) E dL_law_733 (by decide) h) dL_law_734 dL_law_735 ?_
  refine an_callV (As := [.int (xs (i + 1))]) (S := []) (v := some (.int r)) (k := 0) E mvX8_never mlL_83 (by decide) rfl rfl rfl (ctX8_never (yl (zY Z)) (gZ Z adX) _ MX (r, MX1) h1) rfl (Nat.le_of_ble_eq_true rfl) ⟨by rw [hR]; exact Nat.le_of_ble_eq_true rfl, by rw [hR]; exact Nat.le_of_ble_eq_true rfl⟩ ⟨by rw [hR]; exact Nat.le_of_ble_eq_true rfl, by rw [hR]; exact Nat.le_of_ble_eq_true rfl⟩ dL_law_736 ?_
  refine an_swap ?_
  refine an_aload_n E dL_law_739 1 rfl ?_
  refine an_arg h (k := 1) (by omega) dL_law_740 dL_law_741 (fun _ _ h => an_iconst (v := nI 1) E dL_law_742 (by decide) h) dL_law_743 dL_law_744 ?_
  refine an_callV (As := [.int (xs (i + 1))]) (S := [.int r]) (v := some (.int r)) (k := 0) E mvX9_never mlL_86 (by decide) rfl rfl rfl (ctX9_never (yl (zY Z)) (gZ Z adY) _ MY (r, MY1) h2) rfl (Nat.le_of_ble_eq_true rfl) ⟨by rw [hR]; exact Nat.le_of_ble_eq_true rfl, by rw [hR]; exact Nat.le_of_ble_eq_true rfl⟩ ⟨by rw [hR]; exact Nat.le_of_ble_eq_true rfl, by rw [hR]; exact Nat.le_of_ble_eq_true rfl⟩ dL_law_745 ?_
  exact an_icmp_eq (tgt := 1417) E dL_law_748 (by decide) (fun _ => kk MX1 MY1 h3) (fun z => absurd rfl z)
theorem la_bars (h : LZ Z b n xs) (hi : i + 7 ≤ n) (hs : Sim MX MY) (kk : ∀ MX1 MY1, Sim MX1 MY1 → AN Z 4 75 184778 1417 (LL b i adX adY) [] (WB Z adX adY MX1 MY1)) : AN Z 4 75 184778 753 (LL b i adX adY) [] (WB Z adX adY MX MY) := by
  obtain ⟨hR, E, hX, hb, hA, hn⟩ := id h
  obtain ⟨r, MX1, MY1, h1, h2, h3⟩ := eq_bars hs (xs (i + 1))
  refine an_swap ?_
  refine an_aload_n E dL_law_753 2 rfl ?_
  refine an_arg h (k := 1) (by omega) dL_law_754 dL_law_755 (fun _ _ h => an_iconst (v := nI 1) E dL_law_756 (by decide) h) dL_law_757 dL_law_758 ?_
  refine an_callV (As := [.int (xs (i + 1))]) (S := []) (v := some (.int r)) (k := 0) E mvX8_bars mlL_87 (by decide) rfl rfl rfl (ctX8_bars (yl (zY Z)) (gZ Z adX) _ MX (r, MX1) h1) rfl (Nat.le_of_ble_eq_true rfl) ⟨by rw [hR]; exact Nat.le_of_ble_eq_true rfl, by rw [hR]; exact Nat.le_of_ble_eq_true rfl⟩ ⟨by rw [hR]; exact Nat.le_of_ble_eq_true rfl, by rw [hR]; exact Nat.le_of_ble_eq_true rfl⟩ dL_law_759 ?_
  refine an_swap ?_
  refine an_aload_n E dL_law_762 1 rfl ?_
  refine an_arg h (k := 1) (by omega) dL_law_763 dL_law_764 (fun _ _ h => an_iconst (v := nI 1) E dL_law_765 (by decide) h) dL_law_766 dL_law_767 ?_
  refine an_callV (As := [.int (xs (i + 1))]) (S := [.int r]) (v := some (.int r)) (k := 0) E mvX9_bars mlL_90 (by decide) rfl rfl rfl (ctX9_bars (yl (zY Z)) (gZ Z adY) _ MY (r, MY1) h2) rfl (Nat.le_of_ble_eq_true rfl) ⟨by rw [hR]; exact Nat.le_of_ble_eq_true rfl, by rw [hR]; exact Nat.le_of_ble_eq_true rfl⟩ ⟨by rw [hR]; exact Nat.le_of_ble_eq_true rfl, by rw [hR]; exact Nat.le_of_ble_eq_true rfl⟩ dL_law_768 ?_
  exact an_icmp_eq (tgt := 1417) E dL_law_771 (by decide) (fun _ => kk MX1 MY1 h3) (fun z => absurd rfl z)
theorem la_bears (h : LZ Z b n xs) (hi : i + 7 ≤ n) (hs : Sim MX MY) (kk : ∀ MX1 MY1, Sim MX1 MY1 → AN Z 4 75 184778 1417 (LL b i adX adY) [] (WB Z adX adY MX1 MY1)) : AN Z 4 75 184778 776 (LL b i adX adY) [] (WB Z adX adY MX MY) := by
  obtain ⟨hR, E, hX, hb, hA, hn⟩ := id h
  obtain ⟨r, MX1, MY1, h1, h2, h3⟩ := eq_bears hs 
  refine an_swap ?_
  refine an_aload_n E dL_law_776 2 rfl ?_
  refine an_callV (As := []) (S := []) (v := some (.int r)) (k := 0) E mvX8_bears mlL_91 (by decide) rfl rfl rfl (ctX8_bears (yl (zY Z)) (gZ Z adX)  MX (r, MX1) h1) rfl (Nat.le_of_ble_eq_true rfl) ⟨by rw [hR]; exact Nat.le_of_ble_eq_true rfl, by rw [hR]; exact Nat.le_of_ble_eq_true rfl⟩ ⟨by rw [hR]; exact Nat.le_of_ble_eq_true rfl, by rw [hR]; exact Nat.le_of_ble_eq_true rfl⟩ dL_law_777 ?_
  refine an_swap ?_
  refine an_aload_n E dL_law_780 1 rfl ?_
  refine an_callV (As := []) (S := [.int r]) (v := some (.int r)) (k := 0) E mvX9_bears mlL_94 (by decide) rfl rfl rfl (ctX9_bears (yl (zY Z)) (gZ Z adY)  MY (r, MY1) h2) rfl (Nat.le_of_ble_eq_true rfl) ⟨by rw [hR]; exact Nat.le_of_ble_eq_true rfl, by rw [hR]; exact Nat.le_of_ble_eq_true rfl⟩ ⟨by rw [hR]; exact Nat.le_of_ble_eq_true rfl, by rw [hR]; exact Nat.le_of_ble_eq_true rfl⟩ dL_law_781 ?_
  exact an_icmp_eq (tgt := 1417) E dL_law_784 (by decide) (fun _ => kk MX1 MY1 h3) (fun z => absurd rfl z)
theorem la_part (h : LZ Z b n xs) (hi : i + 7 ≤ n) (hs : Sim MX MY) (kk : ∀ MX1 MY1, Sim MX1 MY1 → AN Z 4 75 184778 1417 (LL b i adX adY) [] (WB Z adX adY MX1 MY1)) : AN Z 4 75 184778 789 (LL b i adX adY) [] (WB Z adX adY MX MY) := by
  obtain ⟨hR, E, hX, hb, hA, hn⟩ := id h
  obtain ⟨r, MX1, MY1, h1, h2, h3⟩ := eq_part hs (xs (i + 1))
  refine an_swap ?_
  refine an_aload_n E dL_law_789 2 rfl ?_
  refine an_arg h (k := 1) (by omega) dL_law_790 dL_law_791 (fun _ _ h => an_iconst (v := nI 1) E dL_law_792 (by decide) h) dL_law_793 dL_law_794 ?_
  refine an_callV (As := [.int (xs (i + 1))]) (S := []) (v := some (.int r)) (k := 0) E mvX8_part mlL_95 (by decide) rfl rfl rfl (ctX8_part (yl (zY Z)) (gZ Z adX) _ MX (r, MX1) h1) rfl (Nat.le_of_ble_eq_true rfl) ⟨by rw [hR]; exact Nat.le_of_ble_eq_true rfl, by rw [hR]; exact Nat.le_of_ble_eq_true rfl⟩ ⟨by rw [hR]; exact Nat.le_of_ble_eq_true rfl, by rw [hR]; exact Nat.le_of_ble_eq_true rfl⟩ dL_law_795 ?_
  refine an_swap ?_
  refine an_aload_n E dL_law_798 1 rfl ?_
  refine an_arg h (k := 1) (by omega) dL_law_799 dL_law_800 (fun _ _ h => an_iconst (v := nI 1) E dL_law_801 (by decide) h) dL_law_802 dL_law_803 ?_
  refine an_callV (As := [.int (xs (i + 1))]) (S := [.int r]) (v := some (.int r)) (k := 0) E mvX9_part mlL_98 (by decide) rfl rfl rfl (ctX9_part (yl (zY Z)) (gZ Z adY) _ MY (r, MY1) h2) rfl (Nat.le_of_ble_eq_true rfl) ⟨by rw [hR]; exact Nat.le_of_ble_eq_true rfl, by rw [hR]; exact Nat.le_of_ble_eq_true rfl⟩ ⟨by rw [hR]; exact Nat.le_of_ble_eq_true rfl, by rw [hR]; exact Nat.le_of_ble_eq_true rfl⟩ dL_law_804 ?_
  exact an_icmp_eq (tgt := 1417) E dL_law_807 (by decide) (fun _ => kk MX1 MY1 h3) (fun z => absurd rfl z)
theorem la_house (h : LZ Z b n xs) (hi : i + 7 ≤ n) (hs : Sim MX MY) (kk : ∀ MX1 MY1, Sim MX1 MY1 → AN Z 4 75 184778 1417 (LL b i adX adY) [] (WB Z adX adY MX1 MY1)) : AN Z 4 75 184778 812 (LL b i adX adY) [] (WB Z adX adY MX MY) := by
  obtain ⟨hR, E, hX, hb, hA, hn⟩ := id h
  obtain ⟨r, MX1, MY1, h1, h2, h3⟩ := eq_house hs (xs (i + 1)) (xs (i + 2))
  refine an_swap ?_
  refine an_aload_n E dL_law_812 2 rfl ?_
  refine an_arg h (k := 1) (by omega) dL_law_813 dL_law_814 (fun _ _ h => an_iconst (v := nI 1) E dL_law_815 (by decide) h) dL_law_816 dL_law_817 ?_
  refine an_arg h (k := 2) (by omega) dL_law_818 dL_law_819 (fun _ _ h => an_iconst (v := nI 2) E dL_law_820 (by decide) h) dL_law_821 dL_law_822 ?_
  refine an_callV (As := [.int (xs (i + 1)), .int (xs (i + 2))]) (S := []) (v := some (.int r)) (k := 0) E mvX8_house mlL_99 (by decide) rfl rfl rfl (ctX8_house (yl (zY Z)) (gZ Z adX) _ _ MX (r, MX1) h1) rfl (Nat.le_of_ble_eq_true rfl) ⟨by rw [hR]; exact Nat.le_of_ble_eq_true rfl, by rw [hR]; exact Nat.le_of_ble_eq_true rfl⟩ ⟨by rw [hR]; exact Nat.le_of_ble_eq_true rfl, by rw [hR]; exact Nat.le_of_ble_eq_true rfl⟩ dL_law_823 ?_
  refine an_swap ?_
  refine an_aload_n E dL_law_826 1 rfl ?_
  refine an_arg h (k := 1) (by omega) dL_law_827 dL_law_828 (fun _ _ h => an_iconst (v := nI 1) E dL_law_829 (by decide) h) dL_law_830 dL_law_831 ?_
  refine an_arg h (k := 2) (by omega) dL_law_832 dL_law_833 (fun _ _ h => an_iconst (v := nI 2) E dL_law_834 (by decide) h) dL_law_835 dL_law_836 ?_
  refine an_callV (As := [.int (xs (i + 1)), .int (xs (i + 2))]) (S := [.int r]) (v := some (.int r)) (k := 0) E mvX9_house mlL_102 (by decide) rfl rfl rfl (ctX9_house (yl (zY Z)) (gZ Z adY) _ _ MY (r, MY1) h2) rfl (Nat.le_of_ble_eq_true rfl) ⟨by rw [hR]; exact Nat.le_of_ble_eq_true rfl, by rw [hR]; exact Nat.le_of_ble_eq_true rfl⟩ ⟨by rw [hR]; exact Nat.le_of_ble_eq_true rfl, by rw [hR]; exact Nat.le_of_ble_eq_true rfl⟩ dL_law_837 ?_
  exact an_icmp_eq (tgt := 1417) E dL_law_840 (by decide) (fun _ => kk MX1 MY1 h3) (fun z => absurd rfl z)
theorem la_lane (h : LZ Z b n xs) (hi : i + 7 ≤ n) (hs : Sim MX MY) (kk : ∀ MX1 MY1, Sim MX1 MY1 → AN Z 4 75 184778 1417 (LL b i adX adY) [] (WB Z adX adY MX1 MY1)) : AN Z 4 75 184778 845 (LL b i adX adY) [] (WB Z adX adY MX MY) := by
  obtain ⟨hR, E, hX, hb, hA, hn⟩ := id h
  obtain ⟨r, MX1, MY1, h1, h2, h3⟩ := eq_lane hs (xs (i + 1)) (xs (i + 2))
  refine an_swap ?_
  refine an_aload_n E dL_law_845 2 rfl ?_
  refine an_arg h (k := 1) (by omega) dL_law_846 dL_law_847 (fun _ _ h => an_iconst (v := nI 1) E dL_law_848 (by decide) h) dL_law_849 dL_law_850 ?_
  refine an_arg h (k := 2) (by omega) dL_law_851 dL_law_852 (fun _ _ h => an_iconst (v := nI 2) E dL_law_853 (by decide) h) dL_law_854 dL_law_855 ?_
  refine an_callV (As := [.int (xs (i + 1)), .int (xs (i + 2))]) (S := []) (v := some (.int r)) (k := 0) E mvX8_lane mlL_103 (by decide) rfl rfl rfl (ctX8_lane (yl (zY Z)) (gZ Z adX) _ _ MX (r, MX1) h1) rfl (Nat.le_of_ble_eq_true rfl) ⟨by rw [hR]; exact Nat.le_of_ble_eq_true rfl, by rw [hR]; exact Nat.le_of_ble_eq_true rfl⟩ ⟨by rw [hR]; exact Nat.le_of_ble_eq_true rfl, by rw [hR]; exact Nat.le_of_ble_eq_true rfl⟩ dL_law_856 ?_
  refine an_swap ?_
  refine an_aload_n E dL_law_859 1 rfl ?_
  refine an_arg h (k := 1) (by omega) dL_law_860 dL_law_861 (fun _ _ h => an_iconst (v := nI 1) E dL_law_862 (by decide) h) dL_law_863 dL_law_864 ?_
  refine an_arg h (k := 2) (by omega) dL_law_865 dL_law_866 (fun _ _ h => an_iconst (v := nI 2) E dL_law_867 (by decide) h) dL_law_868 dL_law_869 ?_
  refine an_callV (As := [.int (xs (i + 1)), .int (xs (i + 2))]) (S := [.int r]) (v := some (.int r)) (k := 0) E mvX9_lane mlL_106 (by decide) rfl rfl rfl (ctX9_lane (yl (zY Z)) (gZ Z adY) _ _ MY (r, MY1) h2) rfl (Nat.le_of_ble_eq_true rfl) ⟨by rw [hR]; exact Nat.le_of_ble_eq_true rfl, by rw [hR]; exact Nat.le_of_ble_eq_true rfl⟩ ⟨by rw [hR]; exact Nat.le_of_ble_eq_true rfl, by rw [hR]; exact Nat.le_of_ble_eq_true rfl⟩ dL_law_870 ?_
  exact an_icmp_eq (tgt := 1417) E dL_law_873 (by decide) (fun _ => kk MX1 MY1 h3) (fun z => absurd rfl z)
theorem la_newly (h : LZ Z b n xs) (hi : i + 7 ≤ n) (hs : Sim MX MY) (kk : ∀ MX1 MY1, Sim MX1 MY1 → AN Z 4 75 184778 1417 (LL b i adX adY) [] (WB Z adX adY MX1 MY1)) : AN Z 4 75 184778 878 (LL b i adX adY) [] (WB Z adX adY MX MY) := by
  obtain ⟨hR, E, hX, hb, hA, hn⟩ := id h
  obtain ⟨r, h1, h2⟩ := eq_newly hs 
  refine an_swap ?_
  refine an_aload_n E dL_law_878 2 rfl ?_
  refine an_callV (As := []) (S := []) (v := some (.int r)) (k := 0) E mvX8_newly mlL_107 (by decide) rfl rfl rfl (ctX8_newly (yl (zY Z)) (gZ Z adX)  MX r h1) rfl (Nat.le_of_ble_eq_true rfl) ⟨by rw [hR]; exact Nat.le_of_ble_eq_true rfl, by rw [hR]; exact Nat.le_of_ble_eq_true rfl⟩ ⟨by rw [hR]; exact Nat.le_of_ble_eq_true rfl, by rw [hR]; exact Nat.le_of_ble_eq_true rfl⟩ dL_law_879 ?_
  refine an_swap ?_
  refine an_aload_n E dL_law_882 1 rfl ?_
  refine an_callV (As := []) (S := [.int r]) (v := some (.int r)) (k := 0) E mvX9_newly mlL_110 (by decide) rfl rfl rfl (ctX9_newly (yl (zY Z)) (gZ Z adY)  MY r h2) rfl (Nat.le_of_ble_eq_true rfl) ⟨by rw [hR]; exact Nat.le_of_ble_eq_true rfl, by rw [hR]; exact Nat.le_of_ble_eq_true rfl⟩ ⟨by rw [hR]; exact Nat.le_of_ble_eq_true rfl, by rw [hR]; exact Nat.le_of_ble_eq_true rfl⟩ dL_law_883 ?_
  exact an_icmp_eq (tgt := 1417) E dL_law_886 (by decide) (fun _ => kk MX MY hs) (fun z => absurd rfl z)
theorem la_bond (h : LZ Z b n xs) (hi : i + 7 ≤ n) (hs : Sim MX MY) (kk : ∀ MX1 MY1, Sim MX1 MY1 → AN Z 4 75 184778 1417 (LL b i adX adY) [] (WB Z adX adY MX1 MY1)) : AN Z 4 75 184778 891 (LL b i adX adY) [] (WB Z adX adY MX MY) := by
  obtain ⟨hR, E, hX, hb, hA, hn⟩ := id h
  obtain ⟨r, h1, h2⟩ := eq_bond hs (xs (i + 1)) (xs (i + 2))
  refine an_swap ?_
  refine an_aload_n E dL_law_891 2 rfl ?_
  refine an_arg h (k := 1) (by omega) dL_law_892 dL_law_893 (fun _ _ h => an_iconst (v := nI 1) E dL_law_894 (by decide) h) dL_law_895 dL_law_896 ?_
  refine an_arg h (k := 2) (by omega) dL_law_897 dL_law_898 (fun _ _ h => an_iconst (v := nI 2) E dL_law_899 (by decide) h) dL_law_900 dL_law_901 ?_
  refine an_callV (As := [.int (xs (i + 1)), .int (xs (i + 2))]) (S := []) (v := some (.int r)) (k := 0) E mvX8_bond mlL_111 (by decide) rfl rfl rfl (ctX8_bond (yl (zY Z)) (gZ Z adX) _ _ MX r h1) rfl (Nat.le_of_ble_eq_true rfl) ⟨by rw [hR]; exact Nat.le_of_ble_eq_true rfl, by rw [hR]; exact Nat.le_of_ble_eq_true rfl⟩ ⟨by rw [hR]; exact Nat.le_of_ble_eq_true rfl, by rw [hR]; exact Nat.le_of_ble_eq_true rfl⟩ dL_law_902 ?_
  refine an_swap ?_
  refine an_aload_n E dL_law_905 1 rfl ?_
  refine an_arg h (k := 1) (by omega) dL_law_906 dL_law_907 (fun _ _ h => an_iconst (v := nI 1) E dL_law_908 (by decide) h) dL_law_909 dL_law_910 ?_
  refine an_arg h (k := 2) (by omega) dL_law_911 dL_law_912 (fun _ _ h => an_iconst (v := nI 2) E dL_law_913 (by decide) h) dL_law_914 dL_law_915 ?_
  refine an_callV (As := [.int (xs (i + 1)), .int (xs (i + 2))]) (S := [.int r]) (v := some (.int r)) (k := 0) E mvX9_bond mlL_114 (by decide) rfl rfl rfl (ctX9_bond (yl (zY Z)) (gZ Z adY) _ _ MY r h2) rfl (Nat.le_of_ble_eq_true rfl) ⟨by rw [hR]; exact Nat.le_of_ble_eq_true rfl, by rw [hR]; exact Nat.le_of_ble_eq_true rfl⟩ ⟨by rw [hR]; exact Nat.le_of_ble_eq_true rfl, by rw [hR]; exact Nat.le_of_ble_eq_true rfl⟩ dL_law_916 ?_
  exact an_icmp_eq (tgt := 1417) E dL_law_919 (by decide) (fun _ => kk MX MY hs) (fun z => absurd rfl z)
theorem la_hours (h : LZ Z b n xs) (hi : i + 7 ≤ n) (hs : Sim MX MY) (kk : ∀ MX1 MY1, Sim MX1 MY1 → AN Z 4 75 184778 1417 (LL b i adX adY) [] (WB Z adX adY MX1 MY1)) : AN Z 4 75 184778 924 (LL b i adX adY) [] (WB Z adX adY MX MY) := by
  obtain ⟨hR, E, hX, hb, hA, hn⟩ := id h
  obtain ⟨r, MX1, MY1, h1, h2, h3⟩ := eq_hours hs (xs (i + 1)) (xs (i + 2))
  refine an_swap ?_
  refine an_aload_n E dL_law_924 2 rfl ?_
  refine an_arg h (k := 1) (by omega) dL_law_925 dL_law_926 (fun _ _ h => an_iconst (v := nI 1) E dL_law_927 (by decide) h) dL_law_928 dL_law_929 ?_
  refine an_arg h (k := 2) (by omega) dL_law_930 dL_law_931 (fun _ _ h => an_iconst (v := nI 2) E dL_law_932 (by decide) h) dL_law_933 dL_law_934 ?_
  refine an_callV (As := [.int (xs (i + 1)), .int (xs (i + 2))]) (S := []) (v := some (.int r)) (k := 0) E mvX8_hours mlL_115 (by decide) rfl rfl rfl (ctX8_hours (yl (zY Z)) (gZ Z adX) _ _ MX (r, MX1) h1) rfl (Nat.le_of_ble_eq_true rfl) ⟨by rw [hR]; exact Nat.le_of_ble_eq_true rfl, by rw [hR]; exact Nat.le_of_ble_eq_true rfl⟩ ⟨by rw [hR]; exact Nat.le_of_ble_eq_true rfl, by rw [hR]; exact Nat.le_of_ble_eq_true rfl⟩ dL_law_935 ?_
  refine an_swap ?_
  refine an_aload_n E dL_law_938 1 rfl ?_
  refine an_arg h (k := 1) (by omega) dL_law_939 dL_law_940 (fun _ _ h => an_iconst (v := nI 1) E dL_law_941 (by decide) h) dL_law_942 dL_law_943 ?_
  refine an_arg h (k := 2) (by omega) dL_law_944 dL_law_945 (fun _ _ h => an_iconst (v := nI 2) E dL_law_946 (by decide) h) dL_law_947 dL_law_948 ?_
  refine an_callV (As := [.int (xs (i + 1)), .int (xs (i + 2))]) (S := [.int r]) (v := some (.int r)) (k := 0) E mvX9_hours mlL_118 (by decide) rfl rfl rfl (ctX9_hours (yl (zY Z)) (gZ Z adY) _ _ MY (r, MY1) h2) rfl (Nat.le_of_ble_eq_true rfl) ⟨by rw [hR]; exact Nat.le_of_ble_eq_true rfl, by rw [hR]; exact Nat.le_of_ble_eq_true rfl⟩ ⟨by rw [hR]; exact Nat.le_of_ble_eq_true rfl, by rw [hR]; exact Nat.le_of_ble_eq_true rfl⟩ dL_law_949 ?_
  exact an_icmp_eq (tgt := 1417) E dL_law_952 (by decide) (fun _ => kk MX1 MY1 h3) (fun z => absurd rfl z)
theorem la_laws (h : LZ Z b n xs) (hi : i + 7 ≤ n) (hs : Sim MX MY) (kk : ∀ MX1 MY1, Sim MX1 MY1 → AN Z 4 75 184778 1417 (LL b i adX adY) [] (WB Z adX adY MX1 MY1)) : AN Z 4 75 184778 957 (LL b i adX adY) [] (WB Z adX adY MX MY) := by
  obtain ⟨hR, E, hX, hb, hA, hn⟩ := id h
  obtain ⟨r, MX1, MY1, h1, h2, h3⟩ := eq_laws hs (xs (i + 1))
  refine an_swap ?_
  refine an_aload_n E dL_law_957 2 rfl ?_
  refine an_arg h (k := 1) (by omega) dL_law_958 dL_law_959 (fun _ _ h => an_iconst (v := nI 1) E dL_law_960 (by decide) h) dL_law_961 dL_law_962 ?_
  refine an_callV (As := [.int (xs (i + 1))]) (S := []) (v := some (.int r)) (k := 0) E mvX8_laws mlL_119 (by decide) rfl rfl rfl (ctX8_laws (yl (zY Z)) (gZ Z adX) _ MX (r, MX1) h1) rfl (Nat.le_of_ble_eq_true rfl) ⟨by rw [hR]; exact Nat.le_of_ble_eq_true rfl, by rw [hR]; exact Nat.le_of_ble_eq_true rfl⟩ ⟨by rw [hR]; exact Nat.le_of_ble_eq_true rfl, by rw [hR]; exact Nat.le_of_ble_eq_true rfl⟩ dL_law_963 ?_
  refine an_swap ?_
  refine an_aload_n E dL_law_966 1 rfl ?_
  refine an_arg h (k := 1) (by omega) dL_law_967 dL_law_968 (fun _ _ h => an_iconst (v := nI 1) E dL_law_969 (by decide) h) dL_law_970 dL_law_971 ?_
  refine an_callV (As := [.int (xs (i + 1))]) (S := [.int r]) (v := some (.int r)) (k := 0) E mvX9_laws mlL_122 (by decide) rfl rfl rfl (ctX9_laws (yl (zY Z)) (gZ Z adY) _ MY (r, MY1) h2) rfl (Nat.le_of_ble_eq_true rfl) ⟨by rw [hR]; exact Nat.le_of_ble_eq_true rfl, by rw [hR]; exact Nat.le_of_ble_eq_true rfl⟩ ⟨by rw [hR]; exact Nat.le_of_ble_eq_true rfl, by rw [hR]; exact Nat.le_of_ble_eq_true rfl⟩ dL_law_972 ?_
  exact an_icmp_eq (tgt := 1417) E dL_law_975 (by decide) (fun _ => kk MX1 MY1 h3) (fun z => absurd rfl z)
theorem la_judge (h : LZ Z b n xs) (hi : i + 7 ≤ n) (hs : Sim MX MY) (kk : ∀ MX1 MY1, Sim MX1 MY1 → AN Z 4 75 184778 1417 (LL b i adX adY) [] (WB Z adX adY MX1 MY1)) : AN Z 4 75 184778 980 (LL b i adX adY) [] (WB Z adX adY MX MY) := by
  obtain ⟨hR, E, hX, hb, hA, hn⟩ := id h
  obtain ⟨r, MX1, MY1, h1, h2, h3⟩ := eq_judge hs (xs (i + 1))
  refine an_swap ?_
  refine an_aload_n E dL_law_980 2 rfl ?_
  refine an_arg h (k := 1) (by omega) dL_law_981 dL_law_982 (fun _ _ h => an_iconst (v := nI 1) E dL_law_983 (by decide) h) dL_law_984 dL_law_985 ?_
  refine an_callV (As := [.int (xs (i + 1))]) (S := []) (v := some (.int r)) (k := 0) E mvX8_judge mlL_123 (by decide) rfl rfl rfl (ctX8_judge (yl (zY Z)) (gZ Z adX) _ MX (r, MX1) h1) rfl (Nat.le_of_ble_eq_true rfl) ⟨by rw [hR]; exact Nat.le_of_ble_eq_true rfl, by rw [hR]; exact Nat.le_of_ble_eq_true rfl⟩ ⟨by rw [hR]; exact Nat.le_of_ble_eq_true rfl, by rw [hR]; exact Nat.le_of_ble_eq_true rfl⟩ dL_law_986 ?_
  refine an_swap ?_
  refine an_aload_n E dL_law_989 1 rfl ?_
  refine an_arg h (k := 1) (by omega) dL_law_990 dL_law_991 (fun _ _ h => an_iconst (v := nI 1) E dL_law_992 (by decide) h) dL_law_993 dL_law_994 ?_
  refine an_callV (As := [.int (xs (i + 1))]) (S := [.int r]) (v := some (.int r)) (k := 0) E mvX9_judge mlL_126 (by decide) rfl rfl rfl (ctX9_judge (yl (zY Z)) (gZ Z adY) _ MY (r, MY1) h2) rfl (Nat.le_of_ble_eq_true rfl) ⟨by rw [hR]; exact Nat.le_of_ble_eq_true rfl, by rw [hR]; exact Nat.le_of_ble_eq_true rfl⟩ ⟨by rw [hR]; exact Nat.le_of_ble_eq_true rfl, by rw [hR]; exact Nat.le_of_ble_eq_true rfl⟩ dL_law_995 ?_
  exact an_icmp_eq (tgt := 1417) E dL_law_998 (by decide) (fun _ => kk MX1 MY1 h3) (fun z => absurd rfl z)
theorem la_walk (h : LZ Z b n xs) (hi : i + 7 ≤ n) (hs : Sim MX MY) (kk : ∀ MX1 MY1, Sim MX1 MY1 → AN Z 4 75 184778 1417 (LL b i adX adY) [] (WB Z adX adY MX1 MY1)) : AN Z 4 75 184778 1003 (LL b i adX adY) [] (WB Z adX adY MX MY) := by
  obtain ⟨hR, E, hX, hb, hA, hn⟩ := id h
  obtain ⟨r, MX1, MY1, h1, h2, h3⟩ := eq_walk hs (xs (i + 1)) (xs (i + 2))
  refine an_swap ?_
  refine an_aload_n E dL_law_1003 2 rfl ?_
  refine an_arg h (k := 1) (by omega) dL_law_1004 dL_law_1005 (fun _ _ h => an_iconst (v := nI 1) E dL_law_1006 (by decide) h) dL_law_1007 dL_law_1008 ?_
  refine an_arg h (k := 2) (by omega) dL_law_1009 dL_law_1010 (fun _ _ h => an_iconst (v := nI 2) E dL_law_1011 (by decide) h) dL_law_1012 dL_law_1013 ?_
  refine an_callV (As := [.int (xs (i + 1)), .int (xs (i + 2))]) (S := []) (v := some (.int r)) (k := 0) E mvX8_walk mlL_127 (by decide) rfl rfl rfl (ctX8_walk (yl (zY Z)) (gZ Z adX) _ _ MX (r, MX1) h1) rfl (Nat.le_of_ble_eq_true rfl) ⟨by rw [hR]; exact Nat.le_of_ble_eq_true rfl, by rw [hR]; exact Nat.le_of_ble_eq_true rfl⟩ ⟨by rw [hR]; exact Nat.le_of_ble_eq_true rfl, by rw [hR]; exact Nat.le_of_ble_eq_true rfl⟩ dL_law_1014 ?_
  refine an_swap ?_
  refine an_aload_n E dL_law_1017 1 rfl ?_
  refine an_arg h (k := 1) (by omega) dL_law_1018 dL_law_1019 (fun _ _ h => an_iconst (v := nI 1) E dL_law_1020 (by decide) h) dL_law_1021 dL_law_1022 ?_
  refine an_arg h (k := 2) (by omega) dL_law_1023 dL_law_1024 (fun _ _ h => an_iconst (v := nI 2) E dL_law_1025 (by decide) h) dL_law_1026 dL_law_1027 ?_
  refine an_callV (As := [.int (xs (i + 1)), .int (xs (i + 2))]) (S := [.int r]) (v := some (.int r)) (k := 0) E mvX9_walk mlL_130 (by decide) rfl rfl rfl (ctX9_walk (yl (zY Z)) (gZ Z adY) _ _ MY (r, MY1) h2) rfl (Nat.le_of_ble_eq_true rfl) ⟨by rw [hR]; exact Nat.le_of_ble_eq_true rfl, by rw [hR]; exact Nat.le_of_ble_eq_true rfl⟩ ⟨by rw [hR]; exact Nat.le_of_ble_eq_true rfl, by rw [hR]; exact Nat.le_of_ble_eq_true rfl⟩ dL_law_1028 ?_
  exact an_icmp_eq (tgt := 1417) E dL_law_1031 (by decide) (fun _ => kk MX1 MY1 h3) (fun z => absurd rfl z)
theorem la_show (h : LZ Z b n xs) (hi : i + 7 ≤ n) (hs : Sim MX MY) (kk : ∀ MX1 MY1, Sim MX1 MY1 → AN Z 4 75 184778 1417 (LL b i adX adY) [] (WB Z adX adY MX1 MY1)) : AN Z 4 75 184778 1036 (LL b i adX adY) [] (WB Z adX adY MX MY) := by
  obtain ⟨hR, E, hX, hb, hA, hn⟩ := id h
  obtain ⟨r, MX1, MY1, h1, h2, h3⟩ := eq_show hs (xs (i + 1)) (xs (i + 2))
  refine an_swap ?_
  refine an_aload_n E dL_law_1036 2 rfl ?_
  refine an_arg h (k := 1) (by omega) dL_law_1037 dL_law_1038 (fun _ _ h => an_iconst (v := nI 1) E dL_law_1039 (by decide) h) dL_law_1040 dL_law_1041 ?_
  refine an_arg h (k := 2) (by omega) dL_law_1042 dL_law_1043 (fun _ _ h => an_iconst (v := nI 2) E dL_law_1044 (by decide) h) dL_law_1045 dL_law_1046 ?_
  refine an_callV (As := [.int (xs (i + 1)), .int (xs (i + 2))]) (S := []) (v := some (.int r)) (k := 0) E mvX8_show mlL_131 (by decide) rfl rfl rfl (ctX8_show (yl (zY Z)) (gZ Z adX) _ _ MX (r, MX1) h1) rfl (Nat.le_of_ble_eq_true rfl) ⟨by rw [hR]; exact Nat.le_of_ble_eq_true rfl, by rw [hR]; exact Nat.le_of_ble_eq_true rfl⟩ ⟨by rw [hR]; exact Nat.le_of_ble_eq_true rfl, by rw [hR]; exact Nat.le_of_ble_eq_true rfl⟩ dL_law_1047 ?_
  refine an_swap ?_
  refine an_aload_n E dL_law_1050 1 rfl ?_
  refine an_arg h (k := 1) (by omega) dL_law_1051 dL_law_1052 (fun _ _ h => an_iconst (v := nI 1) E dL_law_1053 (by decide) h) dL_law_1054 dL_law_1055 ?_
  refine an_arg h (k := 2) (by omega) dL_law_1056 dL_law_1057 (fun _ _ h => an_iconst (v := nI 2) E dL_law_1058 (by decide) h) dL_law_1059 dL_law_1060 ?_
  refine an_callV (As := [.int (xs (i + 1)), .int (xs (i + 2))]) (S := [.int r]) (v := some (.int r)) (k := 0) E mvX9_show mlL_134 (by decide) rfl rfl rfl (ctX9_show (yl (zY Z)) (gZ Z adY) _ _ MY (r, MY1) h2) rfl (Nat.le_of_ble_eq_true rfl) ⟨by rw [hR]; exact Nat.le_of_ble_eq_true rfl, by rw [hR]; exact Nat.le_of_ble_eq_true rfl⟩ ⟨by rw [hR]; exact Nat.le_of_ble_eq_true rfl, by rw [hR]; exact Nat.le_of_ble_eq_true rfl⟩ dL_law_1061 ?_
  exact an_icmp_eq (tgt := 1417) E dL_law_1064 (by decide) (fun _ => kk MX1 MY1 h3) (fun z => absurd rfl z)
theorem la_drawn (h : LZ Z b n xs) (hi : i + 7 ≤ n) (hs : Sim MX MY) (kk : ∀ MX1 MY1, Sim MX1 MY1 → AN Z 4 75 184778 1417 (LL b i adX adY) [] (WB Z adX adY MX1 MY1)) : AN Z 4 75 184778 1069 (LL b i adX adY) [] (WB Z adX adY MX MY) := by
  obtain ⟨hR, E, hX, hb, hA, hn⟩ := id h
  obtain ⟨r, MX1, MY1, h1, h2, h3⟩ := eq_drawn hs (xs (i + 1)) (xs (i + 2))
  refine an_swap ?_
  refine an_aload_n E dL_law_1069 2 rfl ?_
  refine an_arg h (k := 1) (by omega) dL_law_1070 dL_law_1071 (fun _ _ h => an_iconst (v := nI 1) E dL_law_1072 (by decide) h) dL_law_1073 dL_law_1074 ?_
  refine an_arg h (k := 2) (by omega) dL_law_1075 dL_law_1076 (fun _ _ h => an_iconst (v := nI 2) E dL_law_1077 (by decide) h) dL_law_1078 dL_law_1079 ?_
  refine an_callV (As := [.int (xs (i + 1)), .int (xs (i + 2))]) (S := []) (v := some (.int r)) (k := 0) E mvX8_drawn mlL_135 (by decide) rfl rfl rfl (ctX8_drawn (yl (zY Z)) (gZ Z adX) _ _ MX (r, MX1) h1) rfl (Nat.le_of_ble_eq_true rfl) ⟨by rw [hR]; exact Nat.le_of_ble_eq_true rfl, by rw [hR]; exact Nat.le_of_ble_eq_true rfl⟩ ⟨by rw [hR]; exact Nat.le_of_ble_eq_true rfl, by rw [hR]; exact Nat.le_of_ble_eq_true rfl⟩ dL_law_1080 ?_
  refine an_swap ?_
  refine an_aload_n E dL_law_1083 1 rfl ?_
  refine an_arg h (k := 1) (by omega) dL_law_1084 dL_law_1085 (fun _ _ h => an_iconst (v := nI 1) E dL_law_1086 (by decide) h) dL_law_1087 dL_law_1088 ?_
  refine an_arg h (k := 2) (by omega) dL_law_1089 dL_law_1090 (fun _ _ h => an_iconst (v := nI 2) E dL_law_1091 (by decide) h) dL_law_1092 dL_law_1093 ?_
  refine an_callV (As := [.int (xs (i + 1)), .int (xs (i + 2))]) (S := [.int r]) (v := some (.int r)) (k := 0) E mvX9_drawn mlL_138 (by decide) rfl rfl rfl (ctX9_drawn (yl (zY Z)) (gZ Z adY) _ _ MY (r, MY1) h2) rfl (Nat.le_of_ble_eq_true rfl) ⟨by rw [hR]; exact Nat.le_of_ble_eq_true rfl, by rw [hR]; exact Nat.le_of_ble_eq_true rfl⟩ ⟨by rw [hR]; exact Nat.le_of_ble_eq_true rfl, by rw [hR]; exact Nat.le_of_ble_eq_true rfl⟩ dL_law_1094 ?_
  exact an_icmp_eq (tgt := 1417) E dL_law_1097 (by decide) (fun _ => kk MX1 MY1 h3) (fun z => absurd rfl z)
theorem la_odds (h : LZ Z b n xs) (hi : i + 7 ≤ n) (hs : Sim MX MY) (kk : ∀ MX1 MY1, Sim MX1 MY1 → AN Z 4 75 184778 1417 (LL b i adX adY) [] (WB Z adX adY MX1 MY1)) : AN Z 4 75 184778 1102 (LL b i adX adY) [] (WB Z adX adY MX MY) := by
  obtain ⟨hR, E, hX, hb, hA, hn⟩ := id h
  obtain ⟨r, MX1, MY1, h1, h2, h3⟩ := eq_odds hs (xs (i + 1)) (xs (i + 2)) (xs (i + 3)) (xs (i + 4))
  refine an_swap ?_
  refine an_aload_n E dL_law_1102 2 rfl ?_
  refine an_arg h (k := 1) (by omega) dL_law_1103 dL_law_1104 (fun _ _ h => an_iconst (v := nI 1) E dL_law_1105 (by decide) h) dL_law_1106 dL_law_1107 ?_
  refine an_arg h (k := 2) (by omega) dL_law_1108 dL_law_1109 (fun _ _ h => an_iconst (v := nI 2) E dL_law_1110 (by decide) h) dL_law_1111 dL_law_1112 ?_
  refine an_arg h (k := 3) (by omega) dL_law_1113 dL_law_1114 (fun _ _ h => an_iconst (v := nI 3) E dL_law_1115 (by decide) h) dL_law_1116 dL_law_1117 ?_
  refine an_arg h (k := 4) (by omega) dL_law_1118 dL_law_1119 (fun _ _ h => an_iconst (v := nI 4) E dL_law_1120 (by decide) h) dL_law_1121 dL_law_1122 ?_
  refine an_callV (As := [.int (xs (i + 1)), .int (xs (i + 2)), .int (xs (i + 3)), .int (xs (i + 4))]) (S := []) (v := some (.long r)) (k := 0) E mvX8_odds mlL_139 (by decide) rfl rfl rfl (ctX8_odds (yl (zY Z)) (gZ Z adX) _ _ _ _ MX (r, MX1) h1) rfl (Nat.le_of_ble_eq_true rfl) ⟨by rw [hR]; exact Nat.le_of_ble_eq_true rfl, by rw [hR]; exact Nat.le_of_ble_eq_true rfl⟩ ⟨by rw [hR]; exact Nat.le_of_ble_eq_true rfl, by rw [hR]; exact Nat.le_of_ble_eq_true rfl⟩ dL_law_1123 ?_
  refine an_swap ?_
  refine an_aload_n E dL_law_1126 1 rfl ?_
  refine an_arg h (k := 1) (by omega) dL_law_1127 dL_law_1128 (fun _ _ h => an_iconst (v := nI 1) E dL_law_1129 (by decide) h) dL_law_1130 dL_law_1131 ?_
  refine an_arg h (k := 2) (by omega) dL_law_1132 dL_law_1133 (fun _ _ h => an_iconst (v := nI 2) E dL_law_1134 (by decide) h) dL_law_1135 dL_law_1136 ?_
  refine an_arg h (k := 3) (by omega) dL_law_1137 dL_law_1138 (fun _ _ h => an_iconst (v := nI 3) E dL_law_1139 (by decide) h) dL_law_1140 dL_law_1141 ?_
  refine an_arg h (k := 4) (by omega) dL_law_1142 dL_law_1143 (fun _ _ h => an_iconst (v := nI 4) E dL_law_1144 (by decide) h) dL_law_1145 dL_law_1146 ?_
  refine an_callV (As := [.int (xs (i + 1)), .int (xs (i + 2)), .int (xs (i + 3)), .int (xs (i + 4))]) (S := [.long r]) (v := some (.long r)) (k := 0) E mvX9_odds mlL_143 (by decide) rfl rfl rfl (ctX9_odds (yl (zY Z)) (gZ Z adY) _ _ _ _ MY (r, MY1) h2) rfl (Nat.le_of_ble_eq_true rfl) ⟨by rw [hR]; exact Nat.le_of_ble_eq_true rfl, by rw [hR]; exact Nat.le_of_ble_eq_true rfl⟩ ⟨by rw [hR]; exact Nat.le_of_ble_eq_true rfl, by rw [hR]; exact Nat.le_of_ble_eq_true rfl⟩ dL_law_1147 ?_
  refine an_lcmp E dL_law_1150 ?_
  exact an_if_eq (tgt := 1417) E dL_law_1151 (by decide) (fun _ => kk MX1 MY1 h3) (fun z => absurd (lg_cmp_self r) z)
theorem la_image (h : LZ Z b n xs) (hi : i + 7 ≤ n) (hs : Sim MX MY) (kk : ∀ MX1 MY1, Sim MX1 MY1 → AN Z 4 75 184778 1417 (LL b i adX adY) [] (WB Z adX adY MX1 MY1)) : AN Z 4 75 184778 1156 (LL b i adX adY) [] (WB Z adX adY MX MY) := by
  obtain ⟨hR, E, hX, hb, hA, hn⟩ := id h
  obtain ⟨r, MX1, MY1, h1, h2, h3⟩ := eq_image hs 
  refine an_swap ?_
  refine an_aload_n E dL_law_1156 2 rfl ?_
  refine an_callV (As := []) (S := []) (v := some (.int r)) (k := 0) E mvX8_image mlL_144 (by decide) rfl rfl rfl (ctX8_image (yl (zY Z)) (gZ Z adX)  MX (r, MX1) h1) rfl (Nat.le_of_ble_eq_true rfl) ⟨by rw [hR]; exact Nat.le_of_ble_eq_true rfl, by rw [hR]; exact Nat.le_of_ble_eq_true rfl⟩ ⟨by rw [hR]; exact Nat.le_of_ble_eq_true rfl, by rw [hR]; exact Nat.le_of_ble_eq_true rfl⟩ dL_law_1157 ?_
  refine an_swap ?_
  refine an_aload_n E dL_law_1160 1 rfl ?_
  refine an_callV (As := []) (S := [.int r]) (v := some (.int r)) (k := 0) E mvX9_image mlL_147 (by decide) rfl rfl rfl (ctX9_image (yl (zY Z)) (gZ Z adY)  MY (r, MY1) h2) rfl (Nat.le_of_ble_eq_true rfl) ⟨by rw [hR]; exact Nat.le_of_ble_eq_true rfl, by rw [hR]; exact Nat.le_of_ble_eq_true rfl⟩ ⟨by rw [hR]; exact Nat.le_of_ble_eq_true rfl, by rw [hR]; exact Nat.le_of_ble_eq_true rfl⟩ dL_law_1161 ?_
  exact an_icmp_eq (tgt := 1417) E dL_law_1164 (by decide) (fun _ => kk MX1 MY1 h3) (fun z => absurd rfl z)
theorem la_back (h : LZ Z b n xs) (hi : i + 7 ≤ n) (hs : Sim MX MY) (kk : ∀ MX1 MY1, Sim MX1 MY1 → AN Z 4 75 184778 1417 (LL b i adX adY) [] (WB Z adX adY MX1 MY1)) : AN Z 4 75 184778 1169 (LL b i adX adY) [] (WB Z adX adY MX MY) := by
  obtain ⟨hR, E, hX, hb, hA, hn⟩ := id h
  obtain ⟨r, MX1, MY1, h1, h2, h3⟩ := eq_back hs 
  refine an_swap ?_
  refine an_aload_n E dL_law_1169 2 rfl ?_
  refine an_callV (As := []) (S := []) (v := some (.int r)) (k := 0) E mvX8_back mlL_148 (by decide) rfl rfl rfl (ctX8_back (yl (zY Z)) (gZ Z adX)  MX (r, MX1) h1) rfl (Nat.le_of_ble_eq_true rfl) ⟨by rw [hR]; exact Nat.le_of_ble_eq_true rfl, by rw [hR]; exact Nat.le_of_ble_eq_true rfl⟩ ⟨by rw [hR]; exact Nat.le_of_ble_eq_true rfl, by rw [hR]; exact Nat.le_of_ble_eq_true rfl⟩ dL_law_1170 ?_
  refine an_swap ?_
  refine an_aload_n E dL_law_1173 1 rfl ?_
  refine an_callV (As := []) (S := [.int r]) (v := some (.int r)) (k := 0) E mvX9_back mlL_151 (by decide) rfl rfl rfl (ctX9_back (yl (zY Z)) (gZ Z adY)  MY (r, MY1) h2) rfl (Nat.le_of_ble_eq_true rfl) ⟨by rw [hR]; exact Nat.le_of_ble_eq_true rfl, by rw [hR]; exact Nat.le_of_ble_eq_true rfl⟩ ⟨by rw [hR]; exact Nat.le_of_ble_eq_true rfl, by rw [hR]; exact Nat.le_of_ble_eq_true rfl⟩ dL_law_1174 ?_
  exact an_icmp_eq (tgt := 1417) E dL_law_1177 (by decide) (fun _ => kk MX1 MY1 h3) (fun z => absurd rfl z)
theorem la_sheet (h : LZ Z b n xs) (hi : i + 7 ≤ n) (hs : Sim MX MY) (kk : ∀ MX1 MY1, Sim MX1 MY1 → AN Z 4 75 184778 1417 (LL b i adX adY) [] (WB Z adX adY MX1 MY1)) : AN Z 4 75 184778 1182 (LL b i adX adY) [] (WB Z adX adY MX MY) := by
  obtain ⟨hR, E, hX, hb, hA, hn⟩ := id h
  obtain ⟨r, MX1, MY1, h1, h2, h3⟩ := eq_sheet hs (xs (i + 1)) (xs (i + 2)) (xs (i + 3))
  refine an_swap ?_
  refine an_aload_n E dL_law_1182 2 rfl ?_
  refine an_arg h (k := 1) (by omega) dL_law_1183 dL_law_1184 (fun _ _ h => an_iconst (v := nI 1) E dL_law_1185 (by decide) h) dL_law_1186 dL_law_1187 ?_
  refine an_arg h (k := 2) (by omega) dL_law_1188 dL_law_1189 (fun _ _ h => an_iconst (v := nI 2) E dL_law_1190 (by decide) h) dL_law_1191 dL_law_1192 ?_
  refine an_arg h (k := 3) (by omega) dL_law_1193 dL_law_1194 (fun _ _ h => an_iconst (v := nI 3) E dL_law_1195 (by decide) h) dL_law_1196 dL_law_1197 ?_
  refine an_callV (As := [.int (xs (i + 1)), .int (xs (i + 2)), .int (xs (i + 3))]) (S := []) (v := some (.int r)) (k := 0) E mvX8_sheet mlL_152 (by decide) rfl rfl rfl (ctX8_sheet (yl (zY Z)) (gZ Z adX) _ _ _ MX (r, MX1) h1) rfl (Nat.le_of_ble_eq_true rfl) ⟨by rw [hR]; exact Nat.le_of_ble_eq_true rfl, by rw [hR]; exact Nat.le_of_ble_eq_true rfl⟩ ⟨by rw [hR]; exact Nat.le_of_ble_eq_true rfl, by rw [hR]; exact Nat.le_of_ble_eq_true rfl⟩ dL_law_1198 ?_
  refine an_swap ?_
  refine an_aload_n E dL_law_1201 1 rfl ?_
  refine an_arg h (k := 1) (by omega) dL_law_1202 dL_law_1203 (fun _ _ h => an_iconst (v := nI 1) E dL_law_1204 (by decide) h) dL_law_1205 dL_law_1206 ?_
  refine an_arg h (k := 2) (by omega) dL_law_1207 dL_law_1208 (fun _ _ h => an_iconst (v := nI 2) E dL_law_1209 (by decide) h) dL_law_1210 dL_law_1211 ?_
  refine an_arg h (k := 3) (by omega) dL_law_1212 dL_law_1213 (fun _ _ h => an_iconst (v := nI 3) E dL_law_1214 (by decide) h) dL_law_1215 dL_law_1216 ?_
  refine an_callV (As := [.int (xs (i + 1)), .int (xs (i + 2)), .int (xs (i + 3))]) (S := [.int r]) (v := some (.int r)) (k := 0) E mvX9_sheet mlL_155 (by decide) rfl rfl rfl (ctX9_sheet (yl (zY Z)) (gZ Z adY) _ _ _ MY (r, MY1) h2) rfl (Nat.le_of_ble_eq_true rfl) ⟨by rw [hR]; exact Nat.le_of_ble_eq_true rfl, by rw [hR]; exact Nat.le_of_ble_eq_true rfl⟩ ⟨by rw [hR]; exact Nat.le_of_ble_eq_true rfl, by rw [hR]; exact Nat.le_of_ble_eq_true rfl⟩ dL_law_1217 ?_
  exact an_icmp_eq (tgt := 1417) E dL_law_1220 (by decide) (fun _ => kk MX1 MY1 h3) (fun z => absurd rfl z)
theorem la_cell (h : LZ Z b n xs) (hi : i + 7 ≤ n) (hs : Sim MX MY) (kk : ∀ MX1 MY1, Sim MX1 MY1 → AN Z 4 75 184778 1417 (LL b i adX adY) [] (WB Z adX adY MX1 MY1)) : AN Z 4 75 184778 1225 (LL b i adX adY) [] (WB Z adX adY MX MY) := by
  obtain ⟨hR, E, hX, hb, hA, hn⟩ := id h
  obtain ⟨r, MX1, MY1, h1, h2, h3⟩ := eq_cell hs (xs (i + 1)) (xs (i + 2)) (xs (i + 3))
  refine an_swap ?_
  refine an_aload_n E dL_law_1225 2 rfl ?_
  refine an_arg h (k := 1) (by omega) dL_law_1226 dL_law_1227 (fun _ _ h => an_iconst (v := nI 1) E dL_law_1228 (by decide) h) dL_law_1229 dL_law_1230 ?_
  refine an_arg h (k := 2) (by omega) dL_law_1231 dL_law_1232 (fun _ _ h => an_iconst (v := nI 2) E dL_law_1233 (by decide) h) dL_law_1234 dL_law_1235 ?_
  refine an_arg h (k := 3) (by omega) dL_law_1236 dL_law_1237 (fun _ _ h => an_iconst (v := nI 3) E dL_law_1238 (by decide) h) dL_law_1239 dL_law_1240 ?_
  refine an_callV (As := [.int (xs (i + 1)), .int (xs (i + 2)), .int (xs (i + 3))]) (S := []) (v := some (.int r)) (k := 0) E mvX8_cell mlL_156 (by decide) rfl rfl rfl (ctX8_cell (yl (zY Z)) (gZ Z adX) _ _ _ MX (r, MX1) h1) rfl (Nat.le_of_ble_eq_true rfl) ⟨by rw [hR]; exact Nat.le_of_ble_eq_true rfl, by rw [hR]; exact Nat.le_of_ble_eq_true rfl⟩ ⟨by rw [hR]; exact Nat.le_of_ble_eq_true rfl, by rw [hR]; exact Nat.le_of_ble_eq_true rfl⟩ dL_law_1241 ?_
  refine an_swap ?_
  refine an_aload_n E dL_law_1244 1 rfl ?_
  refine an_arg h (k := 1) (by omega) dL_law_1245 dL_law_1246 (fun _ _ h => an_iconst (v := nI 1) E dL_law_1247 (by decide) h) dL_law_1248 dL_law_1249 ?_
  refine an_arg h (k := 2) (by omega) dL_law_1250 dL_law_1251 (fun _ _ h => an_iconst (v := nI 2) E dL_law_1252 (by decide) h) dL_law_1253 dL_law_1254 ?_
  refine an_arg h (k := 3) (by omega) dL_law_1255 dL_law_1256 (fun _ _ h => an_iconst (v := nI 3) E dL_law_1257 (by decide) h) dL_law_1258 dL_law_1259 ?_
  refine an_callV (As := [.int (xs (i + 1)), .int (xs (i + 2)), .int (xs (i + 3))]) (S := [.int r]) (v := some (.int r)) (k := 0) E mvX9_cell mlL_159 (by decide) rfl rfl rfl (ctX9_cell (yl (zY Z)) (gZ Z adY) _ _ _ MY (r, MY1) h2) rfl (Nat.le_of_ble_eq_true rfl) ⟨by rw [hR]; exact Nat.le_of_ble_eq_true rfl, by rw [hR]; exact Nat.le_of_ble_eq_true rfl⟩ ⟨by rw [hR]; exact Nat.le_of_ble_eq_true rfl, by rw [hR]; exact Nat.le_of_ble_eq_true rfl⟩ dL_law_1260 ?_
  exact an_icmp_eq (tgt := 1417) E dL_law_1263 (by decide) (fun _ => kk MX1 MY1 h3) (fun z => absurd rfl z)
theorem la_copy (h : LZ Z b n xs) (hi : i + 7 ≤ n) (hs : Sim MX MY) (kk : ∀ MX1 MY1, Sim MX1 MY1 → AN Z 4 75 184778 1417 (LL b i adX adY) [] (WB Z adX adY MX1 MY1)) : AN Z 4 75 184778 1268 (LL b i adX adY) [] (WB Z adX adY MX MY) := by
  obtain ⟨hR, E, hX, hb, hA, hn⟩ := id h
  obtain ⟨r, MX1, MY1, h1, h2, h3⟩ := eq_copy hs (xs (i + 1)) (xs (i + 2)) (xs (i + 3)) (xs (i + 4)) (xs (i + 5))
  refine an_swap ?_
  refine an_aload_n E dL_law_1268 2 rfl ?_
  refine an_arg h (k := 1) (by omega) dL_law_1269 dL_law_1270 (fun _ _ h => an_iconst (v := nI 1) E dL_law_1271 (by decide) h) dL_law_1272 dL_law_1273 ?_
  refine an_arg h (k := 2) (by omega) dL_law_1274 dL_law_1275 (fun _ _ h => an_iconst (v := nI 2) E dL_law_1276 (by decide) h) dL_law_1277 dL_law_1278 ?_
  refine an_arg h (k := 3) (by omega) dL_law_1279 dL_law_1280 (fun _ _ h => an_iconst (v := nI 3) E dL_law_1281 (by decide) h) dL_law_1282 dL_law_1283 ?_
  refine an_arg h (k := 4) (by omega) dL_law_1284 dL_law_1285 (fun _ _ h => an_iconst (v := nI 4) E dL_law_1286 (by decide) h) dL_law_1287 dL_law_1288 ?_
  refine an_arg h (k := 5) (by omega) dL_law_1289 dL_law_1290 (fun _ _ h => an_iconst (v := nI 5) E dL_law_1291 (by decide) h) dL_law_1292 dL_law_1293 ?_
  refine an_callV (As := [.int (xs (i + 1)), .int (xs (i + 2)), .int (xs (i + 3)), .int (xs (i + 4)), .int (xs (i + 5))]) (S := []) (v := some (.int r)) (k := 0) E mvX8_copy mlL_160 (by decide) rfl rfl rfl (ctX8_copy (yl (zY Z)) (gZ Z adX) _ _ _ _ _ MX (r, MX1) h1) rfl (Nat.le_of_ble_eq_true rfl) ⟨by rw [hR]; exact Nat.le_of_ble_eq_true rfl, by rw [hR]; exact Nat.le_of_ble_eq_true rfl⟩ ⟨by rw [hR]; exact Nat.le_of_ble_eq_true rfl, by rw [hR]; exact Nat.le_of_ble_eq_true rfl⟩ dL_law_1294 ?_
  refine an_swap ?_
  refine an_aload_n E dL_law_1297 1 rfl ?_
  refine an_arg h (k := 1) (by omega) dL_law_1298 dL_law_1299 (fun _ _ h => an_iconst (v := nI 1) E dL_law_1300 (by decide) h) dL_law_1301 dL_law_1302 ?_
  refine an_arg h (k := 2) (by omega) dL_law_1303 dL_law_1304 (fun _ _ h => an_iconst (v := nI 2) E dL_law_1305 (by decide) h) dL_law_1306 dL_law_1307 ?_
  refine an_arg h (k := 3) (by omega) dL_law_1308 dL_law_1309 (fun _ _ h => an_iconst (v := nI 3) E dL_law_1310 (by decide) h) dL_law_1311 dL_law_1312 ?_
  refine an_arg h (k := 4) (by omega) dL_law_1313 dL_law_1314 (fun _ _ h => an_iconst (v := nI 4) E dL_law_1315 (by decide) h) dL_law_1316 dL_law_1317 ?_
  refine an_arg h (k := 5) (by omega) dL_law_1318 dL_law_1319 (fun _ _ h => an_iconst (v := nI 5) E dL_law_1320 (by decide) h) dL_law_1321 dL_law_1322 ?_
  refine an_callV (As := [.int (xs (i + 1)), .int (xs (i + 2)), .int (xs (i + 3)), .int (xs (i + 4)), .int (xs (i + 5))]) (S := [.int r]) (v := some (.int r)) (k := 0) E mvX9_copy mlL_164 (by decide) rfl rfl rfl (ctX9_copy (yl (zY Z)) (gZ Z adY) _ _ _ _ _ MY (r, MY1) h2) rfl (Nat.le_of_ble_eq_true rfl) ⟨by rw [hR]; exact Nat.le_of_ble_eq_true rfl, by rw [hR]; exact Nat.le_of_ble_eq_true rfl⟩ ⟨by rw [hR]; exact Nat.le_of_ble_eq_true rfl, by rw [hR]; exact Nat.le_of_ble_eq_true rfl⟩ dL_law_1323 ?_
  exact an_icmp_eq (tgt := 1417) E dL_law_1326 (by decide) (fun _ => kk MX1 MY1 h3) (fun z => absurd rfl z)
theorem la_streetsBy (h : LZ Z b n xs) (hi : i + 7 ≤ n) (hs : Sim MX MY) (kk : ∀ MX1 MY1, Sim MX1 MY1 → AN Z 4 75 184778 1417 (LL b i adX adY) [] (WB Z adX adY MX1 MY1)) : AN Z 4 75 184778 1331 (LL b i adX adY) [] (WB Z adX adY MX MY) := by
  obtain ⟨hR, E, hX, hb, hA, hn⟩ := id h
  obtain ⟨r, MX1, MY1, h1, h2, h3⟩ := eq_streetsBy hs (xs (i + 1)) (xs (i + 2)) (xs (i + 3)) (xs (i + 4))
  refine an_swap ?_
  refine an_aload_n E dL_law_1331 2 rfl ?_
  refine an_arg h (k := 1) (by omega) dL_law_1332 dL_law_1333 (fun _ _ h => an_iconst (v := nI 1) E dL_law_1334 (by decide) h) dL_law_1335 dL_law_1336 ?_
  refine an_arg h (k := 2) (by omega) dL_law_1337 dL_law_1338 (fun _ _ h => an_iconst (v := nI 2) E dL_law_1339 (by decide) h) dL_law_1340 dL_law_1341 ?_
  refine an_arg h (k := 3) (by omega) dL_law_1342 dL_law_1343 (fun _ _ h => an_iconst (v := nI 3) E dL_law_1344 (by decide) h) dL_law_1345 dL_law_1346 ?_
  refine an_arg h (k := 4) (by omega) dL_law_1347 dL_law_1348 (fun _ _ h => an_iconst (v := nI 4) E dL_law_1349 (by decide) h) dL_law_1350 dL_law_1351 ?_
  refine an_callV (As := [.int (xs (i + 1)), .int (xs (i + 2)), .int (xs (i + 3)), .int (xs (i + 4))]) (S := []) (v := some (.int r)) (k := 0) E mvX8_streetsBy mlL_165 (by decide) rfl rfl rfl (ctX8_streetsBy (yl (zY Z)) (gZ Z adX) _ _ _ _ MX (r, MX1) h1) rfl (Nat.le_of_ble_eq_true rfl) ⟨by rw [hR]; exact Nat.le_of_ble_eq_true rfl, by rw [hR]; exact Nat.le_of_ble_eq_true rfl⟩ ⟨by rw [hR]; exact Nat.le_of_ble_eq_true rfl, by rw [hR]; exact Nat.le_of_ble_eq_true rfl⟩ dL_law_1352 ?_
  refine an_swap ?_
  refine an_aload_n E dL_law_1355 1 rfl ?_
  refine an_arg h (k := 1) (by omega) dL_law_1356 dL_law_1357 (fun _ _ h => an_iconst (v := nI 1) E dL_law_1358 (by decide) h) dL_law_1359 dL_law_1360 ?_
  refine an_arg h (k := 2) (by omega) dL_law_1361 dL_law_1362 (fun _ _ h => an_iconst (v := nI 2) E dL_law_1363 (by decide) h) dL_law_1364 dL_law_1365 ?_
  refine an_arg h (k := 3) (by omega) dL_law_1366 dL_law_1367 (fun _ _ h => an_iconst (v := nI 3) E dL_law_1368 (by decide) h) dL_law_1369 dL_law_1370 ?_
  refine an_arg h (k := 4) (by omega) dL_law_1371 dL_law_1372 (fun _ _ h => an_iconst (v := nI 4) E dL_law_1373 (by decide) h) dL_law_1374 dL_law_1375 ?_
  refine an_callV (As := [.int (xs (i + 1)), .int (xs (i + 2)), .int (xs (i + 3)), .int (xs (i + 4))]) (S := [.int r]) (v := some (.int r)) (k := 0) E mvX9_streetsBy mlL_168 (by decide) rfl rfl rfl (ctX9_streetsBy (yl (zY Z)) (gZ Z adY) _ _ _ _ MY (r, MY1) h2) rfl (Nat.le_of_ble_eq_true rfl) ⟨by rw [hR]; exact Nat.le_of_ble_eq_true rfl, by rw [hR]; exact Nat.le_of_ble_eq_true rfl⟩ ⟨by rw [hR]; exact Nat.le_of_ble_eq_true rfl, by rw [hR]; exact Nat.le_of_ble_eq_true rfl⟩ dL_law_1376 ?_
  exact an_icmp_eq (tgt := 1417) E dL_law_1379 (by decide) (fun _ => kk MX1 MY1 h3) (fun z => absurd rfl z)
theorem la_taken (h : LZ Z b n xs) (hi : i + 7 ≤ n) (hs : Sim MX MY) (kk : ∀ MX1 MY1, Sim MX1 MY1 → AN Z 4 75 184778 1417 (LL b i adX adY) [] (WB Z adX adY MX1 MY1)) : AN Z 4 75 184778 1384 (LL b i adX adY) [] (WB Z adX adY MX MY) := by
  obtain ⟨hR, E, hX, hb, hA, hn⟩ := id h
  obtain ⟨r, h1, h2⟩ := eq_taken hs (xs (i + 1)) (xs (i + 2))
  refine an_swap ?_
  refine an_aload_n E dL_law_1384 2 rfl ?_
  refine an_arg h (k := 1) (by omega) dL_law_1385 dL_law_1386 (fun _ _ h => an_iconst (v := nI 1) E dL_law_1387 (by decide) h) dL_law_1388 dL_law_1389 ?_
  refine an_arg h (k := 2) (by omega) dL_law_1390 dL_law_1391 (fun _ _ h => an_iconst (v := nI 2) E dL_law_1392 (by decide) h) dL_law_1393 dL_law_1394 ?_
  refine an_callV (As := [.int (xs (i + 1)), .int (xs (i + 2))]) (S := []) (v := some (.int r)) (k := 0) E mvX8_taken mlL_169 (by decide) rfl rfl rfl (ctX8_taken (yl (zY Z)) (gZ Z adX) _ _ MX r h1) rfl (Nat.le_of_ble_eq_true rfl) ⟨by rw [hR]; exact Nat.le_of_ble_eq_true rfl, by rw [hR]; exact Nat.le_of_ble_eq_true rfl⟩ ⟨by rw [hR]; exact Nat.le_of_ble_eq_true rfl, by rw [hR]; exact Nat.le_of_ble_eq_true rfl⟩ dL_law_1395 ?_
  refine an_swap ?_
  refine an_aload_n E dL_law_1398 1 rfl ?_
  refine an_arg h (k := 1) (by omega) dL_law_1399 dL_law_1400 (fun _ _ h => an_iconst (v := nI 1) E dL_law_1401 (by decide) h) dL_law_1402 dL_law_1403 ?_
  refine an_arg h (k := 2) (by omega) dL_law_1404 dL_law_1405 (fun _ _ h => an_iconst (v := nI 2) E dL_law_1406 (by decide) h) dL_law_1407 dL_law_1408 ?_
  refine an_callV (As := [.int (xs (i + 1)), .int (xs (i + 2))]) (S := [.int r]) (v := some (.int r)) (k := 0) E mvX9_taken mlL_172 (by decide) rfl rfl rfl (ctX9_taken (yl (zY Z)) (gZ Z adY) _ _ MY r h2) rfl (Nat.le_of_ble_eq_true rfl) ⟨by rw [hR]; exact Nat.le_of_ble_eq_true rfl, by rw [hR]; exact Nat.le_of_ble_eq_true rfl⟩ ⟨by rw [hR]; exact Nat.le_of_ble_eq_true rfl, by rw [hR]; exact Nat.le_of_ble_eq_true rfl⟩ dL_law_1409 ?_
  exact an_icmp_eq (tgt := 1417) E dL_law_1412 (by decide) (fun _ => kk MX MY hs) (fun z => absurd rfl z)
end LAWC
