/-! the law: a case a call -/
abbrev lLs (Z : vSt) (i : Nat) : List (Option Value) := [some (.ref Z.1), some (.ref (Z.2.2.2.1 0)), some (.ref (Z.2.2.2.2 0)), some (.int (nI i))]
theorem lcs_0 {Z : vSt} {i : Nat} {A : vA} {σ τ : vMem} (hA : WA A) (hR : RC A σ) (hM : RM A τ) (hL : Z.2.1 ≤ 384) (hi : i + 6 ≤ Z.2.1) (hl : ∀ B σ' τ', WA B → RC B σ' → RM B τ' → J Z 1309 (lLs Z i) [] σ' τ') : J Z 196 (lLs Z i) [] σ τ := by
  obtain ⟨r, B, hB, hc, hm⟩ := q_type hA (Z.2.2.1 (i + 1)) (Z.2.2.1 (i + 2))
  obtain ⟨σ', c1, c2⟩ := hc σ hR
  obtain ⟨τ', m1, m2⟩ := hm τ hM
  refine J.aload_n dL_196 rfl ?_
  refine J.arg (k := 1) (by omega) hL rfl rfl (by decide) dL_197 dL_198 dL_199 dL_200 dL_201 ?_
  refine J.arg (k := 2) (by omega) hL rfl rfl (by decide) dL_202 dL_203 dL_204 dL_205 dL_206 ?_
  refine J.callC (mc := mX7_type) (As := [.int (Z.2.2.1 (i + 1)), .int (Z.2.2.1 (i + 2))]) (st := []) dL_207 lkL_13 hfX7_type rfl rfl (by decide) (Nat.le_of_ble_eq_true rfl) (Nat.le_of_ble_eq_true rfl) (vX7_type c1 ?_)
  show J Z 210 (lLs Z i) [.int r] σ' τ
  refine J.aload_n dL_210 rfl ?_
  refine J.arg (k := 1) (by omega) hL rfl rfl (by decide) dL_211 dL_212 dL_213 dL_214 dL_215 ?_
  refine J.arg (k := 2) (by omega) hL rfl rfl (by decide) dL_216 dL_217 dL_218 dL_219 dL_220 ?_
  refine J.callM (mc := mX8_type) (As := [.int (Z.2.2.1 (i + 1)), .int (Z.2.2.1 (i + 2))]) (st := [.int r]) dL_221 lkL_17 hfX8_type rfl rfl (by decide) (Nat.le_of_ble_eq_true rfl) (Nat.le_of_ble_eq_true rfl) (vX8_type m1 ?_)
  show J Z 224 (lLs Z i) [.int r, .int r] σ' τ'
  refine J.icmp_eqT (tgt := 1309) dL_224 (by decide) ?_
  exact hl B σ' τ' hB c2 m2
theorem lcs_1 {Z : vSt} {i : Nat} {A : vA} {σ τ : vMem} (hA : WA A) (hR : RC A σ) (hM : RM A τ) (hL : Z.2.1 ≤ 384) (hi : i + 6 ≤ Z.2.1) (hl : ∀ B σ' τ', WA B → RC B σ' → RM B τ' → J Z 1309 (lLs Z i) [] σ' τ') : J Z 229 (lLs Z i) [] σ τ := by
  obtain ⟨r, B, hB, hc, hm⟩ := q_wipe hA (Z.2.2.1 (i + 1))
  obtain ⟨σ', c1, c2⟩ := hc σ hR
  obtain ⟨τ', m1, m2⟩ := hm τ hM
  refine J.aload_n dL_229 rfl ?_
  refine J.arg (k := 1) (by omega) hL rfl rfl (by decide) dL_230 dL_231 dL_232 dL_233 dL_234 ?_
  refine J.callC (mc := mX7_wipe) (As := [.int (Z.2.2.1 (i + 1))]) (st := []) dL_235 lkL_18 hfX7_wipe rfl rfl (by decide) (Nat.le_of_ble_eq_true rfl) (Nat.le_of_ble_eq_true rfl) (vX7_wipe c1 ?_)
  show J Z 238 (lLs Z i) [.int r] σ' τ
  refine J.aload_n dL_238 rfl ?_
  refine J.arg (k := 1) (by omega) hL rfl rfl (by decide) dL_239 dL_240 dL_241 dL_242 dL_243 ?_
  refine J.callM (mc := mX8_wipe) (As := [.int (Z.2.2.1 (i + 1))]) (st := [.int r]) dL_244 lkL_22 hfX8_wipe rfl rfl (by decide) (Nat.le_of_ble_eq_true rfl) (Nat.le_of_ble_eq_true rfl) (vX8_wipe m1 ?_)
  show J Z 247 (lLs Z i) [.int r, .int r] σ' τ'
  refine J.icmp_eqT (tgt := 1309) dL_247 (by decide) ?_
  exact hl B σ' τ' hB c2 m2
theorem lcs_2 {Z : vSt} {i : Nat} {A : vA} {σ τ : vMem} (hA : WA A) (hR : RC A σ) (hM : RM A τ) (hL : Z.2.1 ≤ 384) (hi : i + 6 ≤ Z.2.1) (hl : ∀ B σ' τ', WA B → RC B σ' → RM B τ' → J Z 1309 (lLs Z i) [] σ' τ') : J Z 252 (lLs Z i) [] σ τ := by
  obtain ⟨r, B, hB, hc, hm⟩ := q_undo hA (Z.2.2.1 (i + 1))
  obtain ⟨σ', c1, c2⟩ := hc σ hR
  obtain ⟨τ', m1, m2⟩ := hm τ hM
  refine J.aload_n dL_252 rfl ?_
  refine J.arg (k := 1) (by omega) hL rfl rfl (by decide) dL_253 dL_254 dL_255 dL_256 dL_257 ?_
  refine J.callC (mc := mX7_undo) (As := [.int (Z.2.2.1 (i + 1))]) (st := []) dL_258 lkL_23 hfX7_undo rfl rfl (by decide) (Nat.le_of_ble_eq_true rfl) (Nat.le_of_ble_eq_true rfl) (vX7_undo c1 ?_)
  show J Z 261 (lLs Z i) [.int r] σ' τ
  refine J.aload_n dL_261 rfl ?_
  refine J.arg (k := 1) (by omega) hL rfl rfl (by decide) dL_262 dL_263 dL_264 dL_265 dL_266 ?_
  refine J.callM (mc := mX8_undo) (As := [.int (Z.2.2.1 (i + 1))]) (st := [.int r]) dL_267 lkL_26 hfX8_undo rfl rfl (by decide) (Nat.le_of_ble_eq_true rfl) (Nat.le_of_ble_eq_true rfl) (vX8_undo m1 ?_)
  show J Z 270 (lLs Z i) [.int r, .int r] σ' τ'
  refine J.icmp_eqT (tgt := 1309) dL_270 (by decide) ?_
  exact hl B σ' τ' hB c2 m2
theorem lcs_3 {Z : vSt} {i : Nat} {A : vA} {σ τ : vMem} (hA : WA A) (hR : RC A σ) (hM : RM A τ) (hL : Z.2.1 ≤ 384) (hi : i + 6 ≤ Z.2.1) (hl : ∀ B σ' τ', WA B → RC B σ' → RM B τ' → J Z 1309 (lLs Z i) [] σ' τ') : J Z 275 (lLs Z i) [] σ τ := by
  obtain ⟨r, B, hB, hc, hm⟩ := q_fault hA (Z.2.2.1 (i + 1))
  obtain ⟨σ', c1, c2⟩ := hc σ hR
  obtain ⟨τ', m1, m2⟩ := hm τ hM
  refine J.aload_n dL_275 rfl ?_
  refine J.arg (k := 1) (by omega) hL rfl rfl (by decide) dL_276 dL_277 dL_278 dL_279 dL_280 ?_
  refine J.callC (mc := mX7_fault) (As := [.int (Z.2.2.1 (i + 1))]) (st := []) dL_281 lkL_27 hfX7_fault rfl rfl (by decide) (Nat.le_of_ble_eq_true rfl) (Nat.le_of_ble_eq_true rfl) (vX7_fault c1 ?_)
  show J Z 284 (lLs Z i) [.int r] σ' τ
  refine J.aload_n dL_284 rfl ?_
  refine J.arg (k := 1) (by omega) hL rfl rfl (by decide) dL_285 dL_286 dL_287 dL_288 dL_289 ?_
  refine J.callM (mc := mX8_fault) (As := [.int (Z.2.2.1 (i + 1))]) (st := [.int r]) dL_290 lkL_30 hfX8_fault rfl rfl (by decide) (Nat.le_of_ble_eq_true rfl) (Nat.le_of_ble_eq_true rfl) (vX8_fault m1 ?_)
  show J Z 293 (lLs Z i) [.int r, .int r] σ' τ'
  refine J.icmp_eqT (tgt := 1309) dL_293 (by decide) ?_
  exact hl B σ' τ' hB c2 m2
theorem lcs_4 {Z : vSt} {i : Nat} {A : vA} {σ τ : vMem} (hA : WA A) (hR : RC A σ) (hM : RM A τ) (hL : Z.2.1 ≤ 384) (hi : i + 6 ≤ Z.2.1) (hl : ∀ B σ' τ', WA B → RC B σ' → RM B τ' → J Z 1309 (lLs Z i) [] σ' τ') : J Z 298 (lLs Z i) [] σ τ := by
  obtain ⟨r, B, hB, hc, hm⟩ := q_floor hA (Z.2.2.1 (i + 1)) (Z.2.2.1 (i + 2))
  obtain ⟨σ', c1, c2⟩ := hc σ hR
  obtain ⟨τ', m1, m2⟩ := hm τ hM
  refine J.aload_n dL_298 rfl ?_
  refine J.arg (k := 1) (by omega) hL rfl rfl (by decide) dL_299 dL_300 dL_301 dL_302 dL_303 ?_
  refine J.arg (k := 2) (by omega) hL rfl rfl (by decide) dL_304 dL_305 dL_306 dL_307 dL_308 ?_
  refine J.callC (mc := mX7_floor) (As := [.int (Z.2.2.1 (i + 1)), .int (Z.2.2.1 (i + 2))]) (st := []) dL_309 lkL_31 hfX7_floor rfl rfl (by decide) (Nat.le_of_ble_eq_true rfl) (Nat.le_of_ble_eq_true rfl) (vX7_floor c1 ?_)
  show J Z 312 (lLs Z i) [.int r] σ' τ
  refine J.aload_n dL_312 rfl ?_
  refine J.arg (k := 1) (by omega) hL rfl rfl (by decide) dL_313 dL_314 dL_315 dL_316 dL_317 ?_
  refine J.arg (k := 2) (by omega) hL rfl rfl (by decide) dL_318 dL_319 dL_320 dL_321 dL_322 ?_
  refine J.callM (mc := mX8_floor) (As := [.int (Z.2.2.1 (i + 1)), .int (Z.2.2.1 (i + 2))]) (st := [.int r]) dL_323 lkL_34 hfX8_floor rfl rfl (by decide) (Nat.le_of_ble_eq_true rfl) (Nat.le_of_ble_eq_true rfl) (vX8_floor m1 ?_)
  show J Z 326 (lLs Z i) [.int r, .int r] σ' τ'
  refine J.icmp_eqT (tgt := 1309) dL_326 (by decide) ?_
  exact hl B σ' τ' hB c2 m2
theorem lcs_5 {Z : vSt} {i : Nat} {A : vA} {σ τ : vMem} (hA : WA A) (hR : RC A σ) (hM : RM A τ) (hL : Z.2.1 ≤ 384) (hi : i + 6 ≤ Z.2.1) (hl : ∀ B σ' τ', WA B → RC B σ' → RM B τ' → J Z 1309 (lLs Z i) [] σ' τ') : J Z 331 (lLs Z i) [] σ τ := by
  obtain ⟨r, B, hB, hc, hm⟩ := q_basket hA (Z.2.2.1 (i + 1)) (Z.2.2.1 (i + 2))
  obtain ⟨σ', c1, c2⟩ := hc σ hR
  obtain ⟨τ', m1, m2⟩ := hm τ hM
  refine J.aload_n dL_331 rfl ?_
  refine J.arg (k := 1) (by omega) hL rfl rfl (by decide) dL_332 dL_333 dL_334 dL_335 dL_336 ?_
  refine J.arg (k := 2) (by omega) hL rfl rfl (by decide) dL_337 dL_338 dL_339 dL_340 dL_341 ?_
  refine J.callC (mc := mX7_basket) (As := [.int (Z.2.2.1 (i + 1)), .int (Z.2.2.1 (i + 2))]) (st := []) dL_342 lkL_35 hfX7_basket rfl rfl (by decide) (Nat.le_of_ble_eq_true rfl) (Nat.le_of_ble_eq_true rfl) (vX7_basket c1 ?_)
  show J Z 345 (lLs Z i) [.int r] σ' τ
  refine J.aload_n dL_345 rfl ?_
  refine J.arg (k := 1) (by omega) hL rfl rfl (by decide) dL_346 dL_347 dL_348 dL_349 dL_350 ?_
  refine J.arg (k := 2) (by omega) hL rfl rfl (by decide) dL_351 dL_352 dL_353 dL_354 dL_355 ?_
  refine J.callM (mc := mX8_basket) (As := [.int (Z.2.2.1 (i + 1)), .int (Z.2.2.1 (i + 2))]) (st := [.int r]) dL_356 lkL_38 hfX8_basket rfl rfl (by decide) (Nat.le_of_ble_eq_true rfl) (Nat.le_of_ble_eq_true rfl) (vX8_basket m1 ?_)
  show J Z 359 (lLs Z i) [.int r, .int r] σ' τ'
  refine J.icmp_eqT (tgt := 1309) dL_359 (by decide) ?_
  exact hl B σ' τ' hB c2 m2
theorem lcs_6 {Z : vSt} {i : Nat} {A : vA} {σ τ : vMem} (hA : WA A) (hR : RC A σ) (hM : RM A τ) (hL : Z.2.1 ≤ 384) (hi : i + 6 ≤ Z.2.1) (hl : ∀ B σ' τ', WA B → RC B σ' → RM B τ' → J Z 1309 (lLs Z i) [] σ' τ') : J Z 364 (lLs Z i) [] σ τ := by
  obtain ⟨r, B, hB, hc, hm⟩ := q_set hA (Z.2.2.1 (i + 1)) (Z.2.2.1 (i + 2))
  obtain ⟨σ', c1, c2⟩ := hc σ hR
  obtain ⟨τ', m1, m2⟩ := hm τ hM
  refine J.aload_n dL_364 rfl ?_
  refine J.arg (k := 1) (by omega) hL rfl rfl (by decide) dL_365 dL_366 dL_367 dL_368 dL_369 ?_
  refine J.arg (k := 2) (by omega) hL rfl rfl (by decide) dL_370 dL_371 dL_372 dL_373 dL_374 ?_
  refine J.callC (mc := mX7_set) (As := [.int (Z.2.2.1 (i + 1)), .int (Z.2.2.1 (i + 2))]) (st := []) dL_375 lkL_39 hfX7_set rfl rfl (by decide) (Nat.le_of_ble_eq_true rfl) (Nat.le_of_ble_eq_true rfl) (vX7_set c1 ?_)
  show J Z 378 (lLs Z i) [.int r] σ' τ
  refine J.aload_n dL_378 rfl ?_
  refine J.arg (k := 1) (by omega) hL rfl rfl (by decide) dL_379 dL_380 dL_381 dL_382 dL_383 ?_
  refine J.arg (k := 2) (by omega) hL rfl rfl (by decide) dL_384 dL_385 dL_386 dL_387 dL_388 ?_
  refine J.callM (mc := mX8_set) (As := [.int (Z.2.2.1 (i + 1)), .int (Z.2.2.1 (i + 2))]) (st := [.int r]) dL_389 lkL_42 hfX8_set rfl rfl (by decide) (Nat.le_of_ble_eq_true rfl) (Nat.le_of_ble_eq_true rfl) (vX8_set m1 ?_)
  show J Z 392 (lLs Z i) [.int r, .int r] σ' τ'
  refine J.icmp_eqT (tgt := 1309) dL_392 (by decide) ?_
  exact hl B σ' τ' hB c2 m2
theorem lcs_7 {Z : vSt} {i : Nat} {A : vA} {σ τ : vMem} (hA : WA A) (hR : RC A σ) (hM : RM A τ) (hL : Z.2.1 ≤ 384) (hi : i + 6 ≤ Z.2.1) (hl : ∀ B σ' τ', WA B → RC B σ' → RM B τ' → J Z 1309 (lLs Z i) [] σ' τ') : J Z 397 (lLs Z i) [] σ τ := by
  obtain ⟨r, B, hB, hc, hm⟩ := q_wind hA (Z.2.2.1 (i + 1))
  obtain ⟨σ', c1, c2⟩ := hc σ hR
  obtain ⟨τ', m1, m2⟩ := hm τ hM
  refine J.aload_n dL_397 rfl ?_
  refine J.arg (k := 1) (by omega) hL rfl rfl (by decide) dL_398 dL_399 dL_400 dL_401 dL_402 ?_
  refine J.callC (mc := mX7_wind) (As := [.int (Z.2.2.1 (i + 1))]) (st := []) dL_403 lkL_43 hfX7_wind rfl rfl (by decide) (Nat.le_of_ble_eq_true rfl) (Nat.le_of_ble_eq_true rfl) (vX7_wind c1 ?_)
  show J Z 406 (lLs Z i) [.int r] σ' τ
  refine J.aload_n dL_406 rfl ?_
  refine J.arg (k := 1) (by omega) hL rfl rfl (by decide) dL_407 dL_408 dL_409 dL_410 dL_411 ?_
  refine J.callM (mc := mX8_wind) (As := [.int (Z.2.2.1 (i + 1))]) (st := [.int r]) dL_412 lkL_46 hfX8_wind rfl rfl (by decide) (Nat.le_of_ble_eq_true rfl) (Nat.le_of_ble_eq_true rfl) (vX8_wind m1 ?_)
  show J Z 415 (lLs Z i) [.int r, .int r] σ' τ'
  refine J.icmp_eqT (tgt := 1309) dL_415 (by decide) ?_
  exact hl B σ' τ' hB c2 m2
theorem lcs_8 {Z : vSt} {i : Nat} {A : vA} {σ τ : vMem} (hA : WA A) (hR : RC A σ) (hM : RM A τ) (hL : Z.2.1 ≤ 384) (hi : i + 6 ≤ Z.2.1) (hl : ∀ B σ' τ', WA B → RC B σ' → RM B τ' → J Z 1309 (lLs Z i) [] σ' τ') : J Z 420 (lLs Z i) [] σ τ := by
  obtain ⟨r, B, hB, hc, hm⟩ := q_sunday hA (Z.2.2.1 (i + 1))
  obtain ⟨σ', c1, c2⟩ := hc σ hR
  obtain ⟨τ', m1, m2⟩ := hm τ hM
  refine J.aload_n dL_420 rfl ?_
  refine J.arg (k := 1) (by omega) hL rfl rfl (by decide) dL_421 dL_422 dL_423 dL_424 dL_425 ?_
  refine J.callC (mc := mX7_sunday) (As := [.int (Z.2.2.1 (i + 1))]) (st := []) dL_426 lkL_47 hfX7_sunday rfl rfl (by decide) (Nat.le_of_ble_eq_true rfl) (Nat.le_of_ble_eq_true rfl) (vX7_sunday c1 ?_)
  show J Z 429 (lLs Z i) [.int r] σ' τ
  refine J.aload_n dL_429 rfl ?_
  refine J.arg (k := 1) (by omega) hL rfl rfl (by decide) dL_430 dL_431 dL_432 dL_433 dL_434 ?_
  refine J.callM (mc := mX8_sunday) (As := [.int (Z.2.2.1 (i + 1))]) (st := [.int r]) dL_435 lkL_50 hfX8_sunday rfl rfl (by decide) (Nat.le_of_ble_eq_true rfl) (Nat.le_of_ble_eq_true rfl) (vX8_sunday m1 ?_)
  show J Z 438 (lLs Z i) [.int r, .int r] σ' τ'
  refine J.icmp_eqT (tgt := 1309) dL_438 (by decide) ?_
  exact hl B σ' τ' hB c2 m2
theorem lcs_9 {Z : vSt} {i : Nat} {A : vA} {σ τ : vMem} (hA : WA A) (hR : RC A σ) (hM : RM A τ) (hL : Z.2.1 ≤ 384) (hi : i + 6 ≤ Z.2.1) (hl : ∀ B σ' τ', WA B → RC B σ' → RM B τ' → J Z 1309 (lLs Z i) [] σ' τ') : J Z 443 (lLs Z i) [] σ τ := by
  obtain ⟨r, B, hB, hc, hm⟩ := q_back hA (Z.2.2.1 (i + 1))
  obtain ⟨σ', c1, c2⟩ := hc σ hR
  obtain ⟨τ', m1, m2⟩ := hm τ hM
  refine J.aload_n dL_443 rfl ?_
  refine J.arg (k := 1) (by omega) hL rfl rfl (by decide) dL_444 dL_445 dL_446 dL_447 dL_448 ?_
  refine J.callC (mc := mX7_back) (As := [.int (Z.2.2.1 (i + 1))]) (st := []) dL_449 lkL_51 hfX7_back rfl rfl (by decide) (Nat.le_of_ble_eq_true rfl) (Nat.le_of_ble_eq_true rfl) (vX7_back c1 ?_)
  show J Z 452 (lLs Z i) [.int r] σ' τ
  refine J.aload_n dL_452 rfl ?_
  refine J.arg (k := 1) (by omega) hL rfl rfl (by decide) dL_453 dL_454 dL_455 dL_456 dL_457 ?_
  refine J.callM (mc := mX8_back) (As := [.int (Z.2.2.1 (i + 1))]) (st := [.int r]) dL_458 lkL_54 hfX8_back rfl rfl (by decide) (Nat.le_of_ble_eq_true rfl) (Nat.le_of_ble_eq_true rfl) (vX8_back m1 ?_)
  show J Z 461 (lLs Z i) [.int r, .int r] σ' τ'
  refine J.icmp_eqT (tgt := 1309) dL_461 (by decide) ?_
  exact hl B σ' τ' hB c2 m2
theorem lcs_10 {Z : vSt} {i : Nat} {A : vA} {σ τ : vMem} (hA : WA A) (hR : RC A σ) (hM : RM A τ) (hL : Z.2.1 ≤ 384) (hi : i + 6 ≤ Z.2.1) (hl : ∀ B σ' τ', WA B → RC B σ' → RM B τ' → J Z 1309 (lLs Z i) [] σ' τ') : J Z 466 (lLs Z i) [] σ τ := by
  obtain ⟨r, B, hB, hc, hm⟩ := q_read hA (Z.2.2.1 (i + 1))
  obtain ⟨σ', c1, c2⟩ := hc σ hR
  obtain ⟨τ', m1, m2⟩ := hm τ hM
  refine J.aload_n dL_466 rfl ?_
  refine J.arg (k := 1) (by omega) hL rfl rfl (by decide) dL_467 dL_468 dL_469 dL_470 dL_471 ?_
  refine J.callC (mc := mX7_read) (As := [.int (Z.2.2.1 (i + 1))]) (st := []) dL_472 lkL_55 hfX7_read rfl rfl (by decide) (Nat.le_of_ble_eq_true rfl) (Nat.le_of_ble_eq_true rfl) (vX7_read c1 ?_)
  show J Z 475 (lLs Z i) [.int r] σ' τ
  refine J.aload_n dL_475 rfl ?_
  refine J.arg (k := 1) (by omega) hL rfl rfl (by decide) dL_476 dL_477 dL_478 dL_479 dL_480 ?_
  refine J.callM (mc := mX8_read) (As := [.int (Z.2.2.1 (i + 1))]) (st := [.int r]) dL_481 lkL_58 hfX8_read rfl rfl (by decide) (Nat.le_of_ble_eq_true rfl) (Nat.le_of_ble_eq_true rfl) (vX8_read m1 ?_)
  show J Z 484 (lLs Z i) [.int r, .int r] σ' τ'
  refine J.icmp_eqT (tgt := 1309) dL_484 (by decide) ?_
  exact hl B σ' τ' hB c2 m2
theorem lcs_11 {Z : vSt} {i : Nat} {A : vA} {σ τ : vMem} (hA : WA A) (hR : RC A σ) (hM : RM A τ) (hL : Z.2.1 ≤ 384) (hi : i + 6 ≤ Z.2.1) (hl : ∀ B σ' τ', WA B → RC B σ' → RM B τ' → J Z 1309 (lLs Z i) [] σ' τ') : J Z 489 (lLs Z i) [] σ τ := by
  obtain ⟨r, B, hB, hc, hm⟩ := q_at hA (Z.2.2.1 (i + 1)) (Z.2.2.1 (i + 2)) (Z.2.2.1 (i + 3))
  obtain ⟨σ', c1, c2⟩ := hc σ hR
  obtain ⟨τ', m1, m2⟩ := hm τ hM
  refine J.aload_n dL_489 rfl ?_
  refine J.arg (k := 1) (by omega) hL rfl rfl (by decide) dL_490 dL_491 dL_492 dL_493 dL_494 ?_
  refine J.arg (k := 2) (by omega) hL rfl rfl (by decide) dL_495 dL_496 dL_497 dL_498 dL_499 ?_
  refine J.arg (k := 3) (by omega) hL rfl rfl (by decide) dL_500 dL_501 dL_502 dL_503 dL_504 ?_
  refine J.callC (mc := mX7_at) (As := [.int (Z.2.2.1 (i + 1)), .int (Z.2.2.1 (i + 2)), .int (Z.2.2.1 (i + 3))]) (st := []) dL_505 lkL_59 hfX7_at rfl rfl (by decide) (Nat.le_of_ble_eq_true rfl) (Nat.le_of_ble_eq_true rfl) (vX7_at c1 ?_)
  show J Z 508 (lLs Z i) [.int r] σ' τ
  refine J.aload_n dL_508 rfl ?_
  refine J.arg (k := 1) (by omega) hL rfl rfl (by decide) dL_509 dL_510 dL_511 dL_512 dL_513 ?_
  refine J.arg (k := 2) (by omega) hL rfl rfl (by decide) dL_514 dL_515 dL_516 dL_517 dL_518 ?_
  refine J.arg (k := 3) (by omega) hL rfl rfl (by decide) dL_519 dL_520 dL_521 dL_522 dL_523 ?_
  refine J.callM (mc := mX8_at) (As := [.int (Z.2.2.1 (i + 1)), .int (Z.2.2.1 (i + 2)), .int (Z.2.2.1 (i + 3))]) (st := [.int r]) dL_524 lkL_63 hfX8_at rfl rfl (by decide) (Nat.le_of_ble_eq_true rfl) (Nat.le_of_ble_eq_true rfl) (vX8_at m1 ?_)
  show J Z 527 (lLs Z i) [.int r, .int r] σ' τ'
  refine J.icmp_eqT (tgt := 1309) dL_527 (by decide) ?_
  exact hl B σ' τ' hB c2 m2
theorem lcs_12 {Z : vSt} {i : Nat} {A : vA} {σ τ : vMem} (hA : WA A) (hR : RC A σ) (hM : RM A τ) (hL : Z.2.1 ≤ 384) (hi : i + 6 ≤ Z.2.1) (hl : ∀ B σ' τ', WA B → RC B σ' → RM B τ' → J Z 1309 (lLs Z i) [] σ' τ') : J Z 532 (lLs Z i) [] σ τ := by
  obtain ⟨r, B, hB, hc, hm⟩ := q_note hA (Z.2.2.1 (i + 1)) (Z.2.2.1 (i + 2))
  obtain ⟨σ', c1, c2⟩ := hc σ hR
  obtain ⟨τ', m1, m2⟩ := hm τ hM
  refine J.aload_n dL_532 rfl ?_
  refine J.arg (k := 1) (by omega) hL rfl rfl (by decide) dL_533 dL_534 dL_535 dL_536 dL_537 ?_
  refine J.arg (k := 2) (by omega) hL rfl rfl (by decide) dL_538 dL_539 dL_540 dL_541 dL_542 ?_
  refine J.callC (mc := mX7_note) (As := [.int (Z.2.2.1 (i + 1)), .int (Z.2.2.1 (i + 2))]) (st := []) dL_543 lkL_64 hfX7_note rfl rfl (by decide) (Nat.le_of_ble_eq_true rfl) (Nat.le_of_ble_eq_true rfl) (vX7_note c1 ?_)
  show J Z 546 (lLs Z i) [.int r] σ' τ
  refine J.aload_n dL_546 rfl ?_
  refine J.arg (k := 1) (by omega) hL rfl rfl (by decide) dL_547 dL_548 dL_549 dL_550 dL_551 ?_
  refine J.arg (k := 2) (by omega) hL rfl rfl (by decide) dL_552 dL_553 dL_554 dL_555 dL_556 ?_
  refine J.callM (mc := mX8_note) (As := [.int (Z.2.2.1 (i + 1)), .int (Z.2.2.1 (i + 2))]) (st := [.int r]) dL_557 lkL_67 hfX8_note rfl rfl (by decide) (Nat.le_of_ble_eq_true rfl) (Nat.le_of_ble_eq_true rfl) (vX8_note m1 ?_)
  show J Z 560 (lLs Z i) [.int r, .int r] σ' τ'
  refine J.icmp_eqT (tgt := 1309) dL_560 (by decide) ?_
  exact hl B σ' τ' hB c2 m2
theorem lcs_13 {Z : vSt} {i : Nat} {A : vA} {σ τ : vMem} (hA : WA A) (hR : RC A σ) (hM : RM A τ) (hL : Z.2.1 ≤ 384) (hi : i + 6 ≤ Z.2.1) (hl : ∀ B σ' τ', WA B → RC B σ' → RM B τ' → J Z 1309 (lLs Z i) [] σ' τ') : J Z 565 (lLs Z i) [] σ τ := by
  obtain ⟨r, B, hB, hc, hm⟩ := q_comes hA (Z.2.2.1 (i + 1))
  obtain ⟨σ', c1, c2⟩ := hc σ hR
  obtain ⟨τ', m1, m2⟩ := hm τ hM
  refine J.aload_n dL_565 rfl ?_
  refine J.arg (k := 1) (by omega) hL rfl rfl (by decide) dL_566 dL_567 dL_568 dL_569 dL_570 ?_
  refine J.callC (mc := mX7_comes) (As := [.int (Z.2.2.1 (i + 1))]) (st := []) dL_571 lkL_68 hfX7_comes rfl rfl (by decide) (Nat.le_of_ble_eq_true rfl) (Nat.le_of_ble_eq_true rfl) (vX7_comes c1 ?_)
  show J Z 574 (lLs Z i) [.int r] σ' τ
  refine J.aload_n dL_574 rfl ?_
  refine J.arg (k := 1) (by omega) hL rfl rfl (by decide) dL_575 dL_576 dL_577 dL_578 dL_579 ?_
  refine J.callM (mc := mX8_comes) (As := [.int (Z.2.2.1 (i + 1))]) (st := [.int r]) dL_580 lkL_71 hfX8_comes rfl rfl (by decide) (Nat.le_of_ble_eq_true rfl) (Nat.le_of_ble_eq_true rfl) (vX8_comes m1 ?_)
  show J Z 583 (lLs Z i) [.int r, .int r] σ' τ'
  refine J.icmp_eqT (tgt := 1309) dL_583 (by decide) ?_
  exact hl B σ' τ' hB c2 m2
theorem lcs_14 {Z : vSt} {i : Nat} {A : vA} {σ τ : vMem} (hA : WA A) (hR : RC A σ) (hM : RM A τ) (hL : Z.2.1 ≤ 384) (hi : i + 6 ≤ Z.2.1) (hl : ∀ B σ' τ', WA B → RC B σ' → RM B τ' → J Z 1309 (lLs Z i) [] σ' τ') : J Z 588 (lLs Z i) [] σ τ := by
  obtain ⟨r, B, hB, hc, hm⟩ := q_bites hA (Z.2.2.1 (i + 1)) (Z.2.2.1 (i + 2))
  obtain ⟨σ', c1, c2⟩ := hc σ hR
  obtain ⟨τ', m1, m2⟩ := hm τ hM
  refine J.aload_n dL_588 rfl ?_
  refine J.arg (k := 1) (by omega) hL rfl rfl (by decide) dL_589 dL_590 dL_591 dL_592 dL_593 ?_
  refine J.arg (k := 2) (by omega) hL rfl rfl (by decide) dL_594 dL_595 dL_596 dL_597 dL_598 ?_
  refine J.callC (mc := mX7_bites) (As := [.int (Z.2.2.1 (i + 1)), .int (Z.2.2.1 (i + 2))]) (st := []) dL_599 lkL_72 hfX7_bites rfl rfl (by decide) (Nat.le_of_ble_eq_true rfl) (Nat.le_of_ble_eq_true rfl) (vX7_bites c1 ?_)
  show J Z 602 (lLs Z i) [.int r] σ' τ
  refine J.aload_n dL_602 rfl ?_
  refine J.arg (k := 1) (by omega) hL rfl rfl (by decide) dL_603 dL_604 dL_605 dL_606 dL_607 ?_
  refine J.arg (k := 2) (by omega) hL rfl rfl (by decide) dL_608 dL_609 dL_610 dL_611 dL_612 ?_
  refine J.callM (mc := mX8_bites) (As := [.int (Z.2.2.1 (i + 1)), .int (Z.2.2.1 (i + 2))]) (st := [.int r]) dL_613 lkL_75 hfX8_bites rfl rfl (by decide) (Nat.le_of_ble_eq_true rfl) (Nat.le_of_ble_eq_true rfl) (vX8_bites m1 ?_)
  show J Z 616 (lLs Z i) [.int r, .int r] σ' τ'
  refine J.icmp_eqT (tgt := 1309) dL_616 (by decide) ?_
  exact hl B σ' τ' hB c2 m2
theorem lcs_15 {Z : vSt} {i : Nat} {A : vA} {σ τ : vMem} (hA : WA A) (hR : RC A σ) (hM : RM A τ) (hL : Z.2.1 ≤ 384) (hi : i + 6 ≤ Z.2.1) (hl : ∀ B σ' τ', WA B → RC B σ' → RM B τ' → J Z 1309 (lLs Z i) [] σ' τ') : J Z 621 (lLs Z i) [] σ τ := by
  obtain ⟨r, B, hB, hc, hm⟩ := q_famine hA
  obtain ⟨σ', c1, c2⟩ := hc σ hR
  obtain ⟨τ', m1, m2⟩ := hm τ hM
  refine J.aload_n dL_621 rfl ?_
  refine J.callC (mc := mX7_famine) (As := []) (st := []) dL_622 lkL_76 hfX7_famine rfl rfl (by decide) (Nat.le_of_ble_eq_true rfl) (Nat.le_of_ble_eq_true rfl) (vX7_famine c1 ?_)
  show J Z 625 (lLs Z i) [.int r] σ' τ
  refine J.aload_n dL_625 rfl ?_
  refine J.callM (mc := mX8_famine) (As := []) (st := [.int r]) dL_626 lkL_80 hfX8_famine rfl rfl (by decide) (Nat.le_of_ble_eq_true rfl) (Nat.le_of_ble_eq_true rfl) (vX8_famine m1 ?_)
  show J Z 629 (lLs Z i) [.int r, .int r] σ' τ'
  refine J.icmp_eqT (tgt := 1309) dL_629 (by decide) ?_
  exact hl B σ' τ' hB c2 m2
theorem lcs_16 {Z : vSt} {i : Nat} {A : vA} {σ τ : vMem} (hA : WA A) (hR : RC A σ) (hM : RM A τ) (hL : Z.2.1 ≤ 384) (hi : i + 6 ≤ Z.2.1) (hl : ∀ B σ' τ', WA B → RC B σ' → RM B τ' → J Z 1309 (lLs Z i) [] σ' τ') : J Z 634 (lLs Z i) [] σ τ := by
  obtain ⟨r, B, hB, hc, hm⟩ := q_first hA (Z.2.2.1 (i + 1))
  obtain ⟨σ', c1, c2⟩ := hc σ hR
  obtain ⟨τ', m1, m2⟩ := hm τ hM
  refine J.aload_n dL_634 rfl ?_
  refine J.arg (k := 1) (by omega) hL rfl rfl (by decide) dL_635 dL_636 dL_637 dL_638 dL_639 ?_
  refine J.callC (mc := mX7_first) (As := [.int (Z.2.2.1 (i + 1))]) (st := []) dL_640 lkL_81 hfX7_first rfl rfl (by decide) (Nat.le_of_ble_eq_true rfl) (Nat.le_of_ble_eq_true rfl) (vX7_first c1 ?_)
  show J Z 643 (lLs Z i) [.int r] σ' τ
  refine J.aload_n dL_643 rfl ?_
  refine J.arg (k := 1) (by omega) hL rfl rfl (by decide) dL_644 dL_645 dL_646 dL_647 dL_648 ?_
  refine J.callM (mc := mX8_first) (As := [.int (Z.2.2.1 (i + 1))]) (st := [.int r]) dL_649 lkL_84 hfX8_first rfl rfl (by decide) (Nat.le_of_ble_eq_true rfl) (Nat.le_of_ble_eq_true rfl) (vX8_first m1 ?_)
  show J Z 652 (lLs Z i) [.int r, .int r] σ' τ'
  refine J.icmp_eqT (tgt := 1309) dL_652 (by decide) ?_
  exact hl B σ' τ' hB c2 m2
theorem lcs_17 {Z : vSt} {i : Nat} {A : vA} {σ τ : vMem} (hA : WA A) (hR : RC A σ) (hM : RM A τ) (hL : Z.2.1 ≤ 384) (hi : i + 6 ≤ Z.2.1) (hl : ∀ B σ' τ', WA B → RC B σ' → RM B τ' → J Z 1309 (lLs Z i) [] σ' τ') : J Z 657 (lLs Z i) [] σ τ := by
  obtain ⟨r, B, hB, hc, hm⟩ := q_greedy hA
  obtain ⟨σ', c1, c2⟩ := hc σ hR
  obtain ⟨τ', m1, m2⟩ := hm τ hM
  refine J.aload_n dL_657 rfl ?_
  refine J.callC (mc := mX7_greedy) (As := []) (st := []) dL_658 lkL_85 hfX7_greedy rfl rfl (by decide) (Nat.le_of_ble_eq_true rfl) (Nat.le_of_ble_eq_true rfl) (vX7_greedy c1 ?_)
  show J Z 661 (lLs Z i) [.int r] σ' τ
  refine J.aload_n dL_661 rfl ?_
  refine J.callM (mc := mX8_greedy) (As := []) (st := [.int r]) dL_662 lkL_88 hfX8_greedy rfl rfl (by decide) (Nat.le_of_ble_eq_true rfl) (Nat.le_of_ble_eq_true rfl) (vX8_greedy m1 ?_)
  show J Z 665 (lLs Z i) [.int r, .int r] σ' τ'
  refine J.icmp_eqT (tgt := 1309) dL_665 (by decide) ?_
  exact hl B σ' τ' hB c2 m2
theorem lcs_18 {Z : vSt} {i : Nat} {A : vA} {σ τ : vMem} (hA : WA A) (hR : RC A σ) (hM : RM A τ) (hL : Z.2.1 ≤ 384) (hi : i + 6 ≤ Z.2.1) (hl : ∀ B σ' τ', WA B → RC B σ' → RM B τ' → J Z 1309 (lLs Z i) [] σ' τ') : J Z 670 (lLs Z i) [] σ τ := by
  obtain ⟨r, B, hB, hc, hm⟩ := q_send hA (Z.2.2.1 (i + 1)) (Z.2.2.1 (i + 2))
  obtain ⟨σ', c1, c2⟩ := hc σ hR
  obtain ⟨τ', m1, m2⟩ := hm τ hM
  refine J.aload_n dL_670 rfl ?_
  refine J.arg (k := 1) (by omega) hL rfl rfl (by decide) dL_671 dL_672 dL_673 dL_674 dL_675 ?_
  refine J.arg (k := 2) (by omega) hL rfl rfl (by decide) dL_676 dL_677 dL_678 dL_679 dL_680 ?_
  refine J.callC (mc := mX7_send) (As := [.int (Z.2.2.1 (i + 1)), .int (Z.2.2.1 (i + 2))]) (st := []) dL_681 lkL_89 hfX7_send rfl rfl (by decide) (Nat.le_of_ble_eq_true rfl) (Nat.le_of_ble_eq_true rfl) (vX7_send c1 ?_)
  show J Z 684 (lLs Z i) [.int r] σ' τ
  refine J.aload_n dL_684 rfl ?_
  refine J.arg (k := 1) (by omega) hL rfl rfl (by decide) dL_685 dL_686 dL_687 dL_688 dL_689 ?_
  refine J.arg (k := 2) (by omega) hL rfl rfl (by decide) dL_690 dL_691 dL_692 dL_693 dL_694 ?_
  refine J.callM (mc := mX8_send) (As := [.int (Z.2.2.1 (i + 1)), .int (Z.2.2.1 (i + 2))]) (st := [.int r]) dL_695 lkL_92 hfX8_send rfl rfl (by decide) (Nat.le_of_ble_eq_true rfl) (Nat.le_of_ble_eq_true rfl) (vX8_send m1 ?_)
  show J Z 698 (lLs Z i) [.int r, .int r] σ' τ'
  refine J.icmp_eqT (tgt := 1309) dL_698 (by decide) ?_
  exact hl B σ' τ' hB c2 m2
theorem lcs_19 {Z : vSt} {i : Nat} {A : vA} {σ τ : vMem} (hA : WA A) (hR : RC A σ) (hM : RM A τ) (hL : Z.2.1 ≤ 384) (hi : i + 6 ≤ Z.2.1) (hl : ∀ B σ' τ', WA B → RC B σ' → RM B τ' → J Z 1309 (lLs Z i) [] σ' τ') : J Z 703 (lLs Z i) [] σ τ := by
  obtain ⟨r, B, hB, hc, hm⟩ := q_loaf hA (Z.2.2.1 (i + 1)) (Z.2.2.1 (i + 2))
  obtain ⟨σ', c1, c2⟩ := hc σ hR
  obtain ⟨τ', m1, m2⟩ := hm τ hM
  refine J.aload_n dL_703 rfl ?_
  refine J.arg (k := 1) (by omega) hL rfl rfl (by decide) dL_704 dL_705 dL_706 dL_707 dL_708 ?_
  refine J.arg (k := 2) (by omega) hL rfl rfl (by decide) dL_709 dL_710 dL_711 dL_712 dL_713 ?_
  refine J.callC (mc := mX7_loaf) (As := [.int (Z.2.2.1 (i + 1)), .int (Z.2.2.1 (i + 2))]) (st := []) dL_714 lkL_93 hfX7_loaf rfl rfl (by decide) (Nat.le_of_ble_eq_true rfl) (Nat.le_of_ble_eq_true rfl) (vX7_loaf c1 ?_)
  show J Z 717 (lLs Z i) [.int r] σ' τ
  refine J.aload_n dL_717 rfl ?_
  refine J.arg (k := 1) (by omega) hL rfl rfl (by decide) dL_718 dL_719 dL_720 dL_721 dL_722 ?_
  refine J.arg (k := 2) (by omega) hL rfl rfl (by decide) dL_723 dL_724 dL_725 dL_726 dL_727 ?_
  refine J.callM (mc := mX8_loaf) (As := [.int (Z.2.2.1 (i + 1)), .int (Z.2.2.1 (i + 2))]) (st := [.int r]) dL_728 lkL_96 hfX8_loaf rfl rfl (by decide) (Nat.le_of_ble_eq_true rfl) (Nat.le_of_ble_eq_true rfl) (vX8_loaf m1 ?_)
  show J Z 731 (lLs Z i) [.int r, .int r] σ' τ'
  refine J.icmp_eqT (tgt := 1309) dL_731 (by decide) ?_
  exact hl B σ' τ' hB c2 m2
theorem lcs_20 {Z : vSt} {i : Nat} {A : vA} {σ τ : vMem} (hA : WA A) (hR : RC A σ) (hM : RM A τ) (hL : Z.2.1 ≤ 384) (hi : i + 6 ≤ Z.2.1) (hl : ∀ B σ' τ', WA B → RC B σ' → RM B τ' → J Z 1309 (lLs Z i) [] σ' τ') : J Z 736 (lLs Z i) [] σ τ := by
  obtain ⟨r, B, hB, hc, hm⟩ := q_feed hA (Z.2.2.1 (i + 1)) (Z.2.2.1 (i + 2))
  obtain ⟨σ', c1, c2⟩ := hc σ hR
  obtain ⟨τ', m1, m2⟩ := hm τ hM
  refine J.aload_n dL_736 rfl ?_
  refine J.arg (k := 1) (by omega) hL rfl rfl (by decide) dL_737 dL_738 dL_739 dL_740 dL_741 ?_
  refine J.arg (k := 2) (by omega) hL rfl rfl (by decide) dL_742 dL_743 dL_744 dL_745 dL_746 ?_
  refine J.callC (mc := mX7_feed) (As := [.int (Z.2.2.1 (i + 1)), .int (Z.2.2.1 (i + 2))]) (st := []) dL_747 lkL_97 hfX7_feed rfl rfl (by decide) (Nat.le_of_ble_eq_true rfl) (Nat.le_of_ble_eq_true rfl) (vX7_feed c1 ?_)
  show J Z 750 (lLs Z i) [.int r] σ' τ
  refine J.aload_n dL_750 rfl ?_
  refine J.arg (k := 1) (by omega) hL rfl rfl (by decide) dL_751 dL_752 dL_753 dL_754 dL_755 ?_
  refine J.arg (k := 2) (by omega) hL rfl rfl (by decide) dL_756 dL_757 dL_758 dL_759 dL_760 ?_
  refine J.callM (mc := mX8_feed) (As := [.int (Z.2.2.1 (i + 1)), .int (Z.2.2.1 (i + 2))]) (st := [.int r]) dL_761 lkL_100 hfX8_feed rfl rfl (by decide) (Nat.le_of_ble_eq_true rfl) (Nat.le_of_ble_eq_true rfl) (vX8_feed m1 ?_)
  show J Z 764 (lLs Z i) [.int r, .int r] σ' τ'
  refine J.icmp_eqT (tgt := 1309) dL_764 (by decide) ?_
  exact hl B σ' τ' hB c2 m2
theorem lcs_21 {Z : vSt} {i : Nat} {A : vA} {σ τ : vMem} (hA : WA A) (hR : RC A σ) (hM : RM A τ) (hL : Z.2.1 ≤ 384) (hi : i + 6 ≤ Z.2.1) (hl : ∀ B σ' τ', WA B → RC B σ' → RM B τ' → J Z 1309 (lLs Z i) [] σ' τ') : J Z 769 (lLs Z i) [] σ τ := by
  obtain ⟨r, B, hB, hc, hm⟩ := q_still hA (Z.2.2.1 (i + 1))
  obtain ⟨σ', c1, c2⟩ := hc σ hR
  obtain ⟨τ', m1, m2⟩ := hm τ hM
  refine J.aload_n dL_769 rfl ?_
  refine J.arg (k := 1) (by omega) hL rfl rfl (by decide) dL_770 dL_771 dL_772 dL_773 dL_774 ?_
  refine J.callC (mc := mX7_still) (As := [.int (Z.2.2.1 (i + 1))]) (st := []) dL_775 lkL_101 hfX7_still rfl rfl (by decide) (Nat.le_of_ble_eq_true rfl) (Nat.le_of_ble_eq_true rfl) (vX7_still c1 ?_)
  show J Z 778 (lLs Z i) [.int r] σ' τ
  refine J.aload_n dL_778 rfl ?_
  refine J.arg (k := 1) (by omega) hL rfl rfl (by decide) dL_779 dL_780 dL_781 dL_782 dL_783 ?_
  refine J.callM (mc := mX8_still) (As := [.int (Z.2.2.1 (i + 1))]) (st := [.int r]) dL_784 lkL_104 hfX8_still rfl rfl (by decide) (Nat.le_of_ble_eq_true rfl) (Nat.le_of_ble_eq_true rfl) (vX8_still m1 ?_)
  show J Z 787 (lLs Z i) [.int r, .int r] σ' τ'
  refine J.icmp_eqT (tgt := 1309) dL_787 (by decide) ?_
  exact hl B σ' τ' hB c2 m2
theorem lcs_22 {Z : vSt} {i : Nat} {A : vA} {σ τ : vMem} (hA : WA A) (hR : RC A σ) (hM : RM A τ) (hL : Z.2.1 ≤ 384) (hi : i + 6 ≤ Z.2.1) (hl : ∀ B σ' τ', WA B → RC B σ' → RM B τ' → J Z 1309 (lLs Z i) [] σ' τ') : J Z 792 (lLs Z i) [] σ τ := by
  obtain ⟨r, B, hB, hc, hm⟩ := q_seen hA (Z.2.2.1 (i + 1)) (Z.2.2.1 (i + 2)) (Z.2.2.1 (i + 3))
  obtain ⟨σ', c1, c2⟩ := hc σ hR
  obtain ⟨τ', m1, m2⟩ := hm τ hM
  refine J.aload_n dL_792 rfl ?_
  refine J.arg (k := 1) (by omega) hL rfl rfl (by decide) dL_793 dL_794 dL_795 dL_796 dL_797 ?_
  refine J.arg (k := 2) (by omega) hL rfl rfl (by decide) dL_798 dL_799 dL_800 dL_801 dL_802 ?_
  refine J.arg (k := 3) (by omega) hL rfl rfl (by decide) dL_803 dL_804 dL_805 dL_806 dL_807 ?_
  refine J.callC (mc := mX7_seen) (As := [.int (Z.2.2.1 (i + 1)), .int (Z.2.2.1 (i + 2)), .int (Z.2.2.1 (i + 3))]) (st := []) dL_808 lkL_105 hfX7_seen rfl rfl (by decide) (Nat.le_of_ble_eq_true rfl) (Nat.le_of_ble_eq_true rfl) (vX7_seen c1 ?_)
  show J Z 811 (lLs Z i) [.int r] σ' τ
  refine J.aload_n dL_811 rfl ?_
  refine J.arg (k := 1) (by omega) hL rfl rfl (by decide) dL_812 dL_813 dL_814 dL_815 dL_816 ?_
  refine J.arg (k := 2) (by omega) hL rfl rfl (by decide) dL_817 dL_818 dL_819 dL_820 dL_821 ?_
  refine J.arg (k := 3) (by omega) hL rfl rfl (by decide) dL_822 dL_823 dL_824 dL_825 dL_826 ?_
  refine J.callM (mc := mX8_seen) (As := [.int (Z.2.2.1 (i + 1)), .int (Z.2.2.1 (i + 2)), .int (Z.2.2.1 (i + 3))]) (st := [.int r]) dL_827 lkL_108 hfX8_seen rfl rfl (by decide) (Nat.le_of_ble_eq_true rfl) (Nat.le_of_ble_eq_true rfl) (vX8_seen m1 ?_)
  show J Z 830 (lLs Z i) [.int r, .int r] σ' τ'
  refine J.icmp_eqT (tgt := 1309) dL_830 (by decide) ?_
  exact hl B σ' τ' hB c2 m2
theorem lcs_23 {Z : vSt} {i : Nat} {A : vA} {σ τ : vMem} (hA : WA A) (hR : RC A σ) (hM : RM A τ) (hL : Z.2.1 ≤ 384) (hi : i + 6 ≤ Z.2.1) (hl : ∀ B σ' τ', WA B → RC B σ' → RM B τ' → J Z 1309 (lLs Z i) [] σ' τ') : J Z 835 (lLs Z i) [] σ τ := by
  obtain ⟨r, B, hB, hc, hm⟩ := q_forget hA
  obtain ⟨σ', c1, c2⟩ := hc σ hR
  obtain ⟨τ', m1, m2⟩ := hm τ hM
  refine J.aload_n dL_835 rfl ?_
  refine J.callC (mc := mX7_forget) (As := []) (st := []) dL_836 lkL_109 hfX7_forget rfl rfl (by decide) (Nat.le_of_ble_eq_true rfl) (Nat.le_of_ble_eq_true rfl) (vX7_forget c1 ?_)
  show J Z 839 (lLs Z i) [.int r] σ' τ
  refine J.aload_n dL_839 rfl ?_
  refine J.callM (mc := mX8_forget) (As := []) (st := [.int r]) dL_840 lkL_112 hfX8_forget rfl rfl (by decide) (Nat.le_of_ble_eq_true rfl) (Nat.le_of_ble_eq_true rfl) (vX8_forget m1 ?_)
  show J Z 843 (lLs Z i) [.int r, .int r] σ' τ'
  refine J.icmp_eqT (tgt := 1309) dL_843 (by decide) ?_
  exact hl B σ' τ' hB c2 m2
theorem lcs_24 {Z : vSt} {i : Nat} {A : vA} {σ τ : vMem} (hA : WA A) (hR : RC A σ) (hM : RM A τ) (hL : Z.2.1 ≤ 384) (hi : i + 6 ≤ Z.2.1) (hl : ∀ B σ' τ', WA B → RC B σ' → RM B τ' → J Z 1309 (lLs Z i) [] σ' τ') : J Z 848 (lLs Z i) [] σ τ := by
  obtain ⟨r, B, hB, hc, hm⟩ := q_never hA
  obtain ⟨σ', c1, c2⟩ := hc σ hR
  obtain ⟨τ', m1, m2⟩ := hm τ hM
  refine J.aload_n dL_848 rfl ?_
  refine J.callC (mc := mX7_never) (As := []) (st := []) dL_849 lkL_113 hfX7_never rfl rfl (by decide) (Nat.le_of_ble_eq_true rfl) (Nat.le_of_ble_eq_true rfl) (vX7_never c1 ?_)
  show J Z 852 (lLs Z i) [.int r] σ' τ
  refine J.aload_n dL_852 rfl ?_
  refine J.callM (mc := mX8_never) (As := []) (st := [.int r]) dL_853 lkL_116 hfX8_never rfl rfl (by decide) (Nat.le_of_ble_eq_true rfl) (Nat.le_of_ble_eq_true rfl) (vX8_never m1 ?_)
  show J Z 856 (lLs Z i) [.int r, .int r] σ' τ'
  refine J.icmp_eqT (tgt := 1309) dL_856 (by decide) ?_
  exact hl B σ' τ' hB c2 m2
theorem lcs_25 {Z : vSt} {i : Nat} {A : vA} {σ τ : vMem} (hA : WA A) (hR : RC A σ) (hM : RM A τ) (hL : Z.2.1 ≤ 384) (hi : i + 6 ≤ Z.2.1) (hl : ∀ B σ' τ', WA B → RC B σ' → RM B τ' → J Z 1309 (lLs Z i) [] σ' τ') : J Z 861 (lLs Z i) [] σ τ := by
  obtain ⟨r, B, hB, hc, hm⟩ := q_was hA (Z.2.2.1 (i + 1)) (Z.2.2.1 (i + 2))
  obtain ⟨σ', c1, c2⟩ := hc σ hR
  obtain ⟨τ', m1, m2⟩ := hm τ hM
  refine J.aload_n dL_861 rfl ?_
  refine J.arg (k := 1) (by omega) hL rfl rfl (by decide) dL_862 dL_863 dL_864 dL_865 dL_866 ?_
  refine J.arg (k := 2) (by omega) hL rfl rfl (by decide) dL_867 dL_868 dL_869 dL_870 dL_871 ?_
  refine J.callC (mc := mX7_was) (As := [.int (Z.2.2.1 (i + 1)), .int (Z.2.2.1 (i + 2))]) (st := []) dL_872 lkL_117 hfX7_was rfl rfl (by decide) (Nat.le_of_ble_eq_true rfl) (Nat.le_of_ble_eq_true rfl) (vX7_was c1 ?_)
  show J Z 875 (lLs Z i) [.int r] σ' τ
  refine J.aload_n dL_875 rfl ?_
  refine J.arg (k := 1) (by omega) hL rfl rfl (by decide) dL_876 dL_877 dL_878 dL_879 dL_880 ?_
  refine J.arg (k := 2) (by omega) hL rfl rfl (by decide) dL_881 dL_882 dL_883 dL_884 dL_885 ?_
  refine J.callM (mc := mX8_was) (As := [.int (Z.2.2.1 (i + 1)), .int (Z.2.2.1 (i + 2))]) (st := [.int r]) dL_886 lkL_120 hfX8_was rfl rfl (by decide) (Nat.le_of_ble_eq_true rfl) (Nat.le_of_ble_eq_true rfl) (vX8_was m1 ?_)
  show J Z 889 (lLs Z i) [.int r, .int r] σ' τ'
  refine J.icmp_eqT (tgt := 1309) dL_889 (by decide) ?_
  exact hl B σ' τ' hB c2 m2
theorem lcs_26 {Z : vSt} {i : Nat} {A : vA} {σ τ : vMem} (hA : WA A) (hR : RC A σ) (hM : RM A τ) (hL : Z.2.1 ≤ 384) (hi : i + 6 ≤ Z.2.1) (hl : ∀ B σ' τ', WA B → RC B σ' → RM B τ' → J Z 1309 (lLs Z i) [] σ' τ') : J Z 894 (lLs Z i) [] σ τ := by
  obtain ⟨r, B, hB, hc, hm⟩ := q_ask hA (Z.2.2.1 (i + 1))
  obtain ⟨σ', c1, c2⟩ := hc σ hR
  obtain ⟨τ', m1, m2⟩ := hm τ hM
  refine J.aload_n dL_894 rfl ?_
  refine J.arg (k := 1) (by omega) hL rfl rfl (by decide) dL_895 dL_896 dL_897 dL_898 dL_899 ?_
  refine J.callC (mc := mX7_ask) (As := [.int (Z.2.2.1 (i + 1))]) (st := []) dL_900 lkL_121 hfX7_ask rfl rfl (by decide) (Nat.le_of_ble_eq_true rfl) (Nat.le_of_ble_eq_true rfl) (vX7_ask c1 ?_)
  show J Z 903 (lLs Z i) [.int r] σ' τ
  refine J.aload_n dL_903 rfl ?_
  refine J.arg (k := 1) (by omega) hL rfl rfl (by decide) dL_904 dL_905 dL_906 dL_907 dL_908 ?_
  refine J.callM (mc := mX8_ask) (As := [.int (Z.2.2.1 (i + 1))]) (st := [.int r]) dL_909 lkL_124 hfX8_ask rfl rfl (by decide) (Nat.le_of_ble_eq_true rfl) (Nat.le_of_ble_eq_true rfl) (vX8_ask m1 ?_)
  show J Z 912 (lLs Z i) [.int r, .int r] σ' τ'
  refine J.icmp_eqT (tgt := 1309) dL_912 (by decide) ?_
  exact hl B σ' τ' hB c2 m2
theorem lcs_27 {Z : vSt} {i : Nat} {A : vA} {σ τ : vMem} (hA : WA A) (hR : RC A σ) (hM : RM A τ) (hL : Z.2.1 ≤ 384) (hi : i + 6 ≤ Z.2.1) (hl : ∀ B σ' τ', WA B → RC B σ' → RM B τ' → J Z 1309 (lLs Z i) [] σ' τ') : J Z 917 (lLs Z i) [] σ τ := by
  obtain ⟨r, B, hB, hc, hm⟩ := q_gust hA (Z.2.2.1 (i + 1)) (Z.2.2.1 (i + 2)) (Z.2.2.1 (i + 3)) (Z.2.2.1 (i + 4))
  obtain ⟨σ', c1, c2⟩ := hc σ hR
  obtain ⟨τ', m1, m2⟩ := hm τ hM
  refine J.aload_n dL_917 rfl ?_
  refine J.arg (k := 1) (by omega) hL rfl rfl (by decide) dL_918 dL_919 dL_920 dL_921 dL_922 ?_
  refine J.arg (k := 2) (by omega) hL rfl rfl (by decide) dL_923 dL_924 dL_925 dL_926 dL_927 ?_
  refine J.arg (k := 3) (by omega) hL rfl rfl (by decide) dL_928 dL_929 dL_930 dL_931 dL_932 ?_
  refine J.arg (k := 4) (by omega) hL rfl rfl (by decide) dL_933 dL_934 dL_935 dL_936 dL_937 ?_
  refine J.callC (mc := mX7_gust) (As := [.int (Z.2.2.1 (i + 1)), .int (Z.2.2.1 (i + 2)), .int (Z.2.2.1 (i + 3)), .int (Z.2.2.1 (i + 4))]) (st := []) dL_938 lkL_125 hfX7_gust rfl rfl (by decide) (Nat.le_of_ble_eq_true rfl) (Nat.le_of_ble_eq_true rfl) (vX7_gust c1 ?_)
  show J Z 941 (lLs Z i) [.long r] σ' τ
  refine J.aload_n dL_941 rfl ?_
  refine J.arg (k := 1) (by omega) hL rfl rfl (by decide) dL_942 dL_943 dL_944 dL_945 dL_946 ?_
  refine J.arg (k := 2) (by omega) hL rfl rfl (by decide) dL_947 dL_948 dL_949 dL_950 dL_951 ?_
  refine J.arg (k := 3) (by omega) hL rfl rfl (by decide) dL_952 dL_953 dL_954 dL_955 dL_956 ?_
  refine J.arg (k := 4) (by omega) hL rfl rfl (by decide) dL_957 dL_958 dL_959 dL_960 dL_961 ?_
  refine J.callM (mc := mX8_gust) (As := [.int (Z.2.2.1 (i + 1)), .int (Z.2.2.1 (i + 2)), .int (Z.2.2.1 (i + 3)), .int (Z.2.2.1 (i + 4))]) (st := [.long r]) dL_962 lkL_129 hfX8_gust rfl rfl (by decide) (Nat.le_of_ble_eq_true rfl) (Nat.le_of_ble_eq_true rfl) (vX8_gust m1 ?_)
  show J Z 965 (lLs Z i) [.long r, .long r] σ' τ'
  refine J.lcmpT (tgt := 1309) dL_965 dL_966 (by decide) ?_
  exact hl B σ' τ' hB c2 m2
theorem lcs_28 {Z : vSt} {i : Nat} {A : vA} {σ τ : vMem} (hA : WA A) (hR : RC A σ) (hM : RM A τ) (hL : Z.2.1 ≤ 384) (hi : i + 6 ≤ Z.2.1) (hl : ∀ B σ' τ', WA B → RC B σ' → RM B τ' → J Z 1309 (lLs Z i) [] σ' τ') : J Z 971 (lLs Z i) [] σ τ := by
  obtain ⟨r, B, hB, hc, hm⟩ := q_week hA (Z.2.2.1 (i + 1)) (Z.2.2.1 (i + 2)) (Z.2.2.1 (i + 3))
  obtain ⟨σ', c1, c2⟩ := hc σ hR
  obtain ⟨τ', m1, m2⟩ := hm τ hM
  refine J.aload_n dL_971 rfl ?_
  refine J.arg (k := 1) (by omega) hL rfl rfl (by decide) dL_972 dL_973 dL_974 dL_975 dL_976 ?_
  refine J.arg (k := 2) (by omega) hL rfl rfl (by decide) dL_977 dL_978 dL_979 dL_980 dL_981 ?_
  refine J.arg (k := 3) (by omega) hL rfl rfl (by decide) dL_982 dL_983 dL_984 dL_985 dL_986 ?_
  refine J.callC (mc := mX7_week) (As := [.int (Z.2.2.1 (i + 1)), .int (Z.2.2.1 (i + 2)), .int (Z.2.2.1 (i + 3))]) (st := []) dL_987 lkL_130 hfX7_week rfl rfl (by decide) (Nat.le_of_ble_eq_true rfl) (Nat.le_of_ble_eq_true rfl) (vX7_week c1 ?_)
  show J Z 990 (lLs Z i) [.int r] σ' τ
  refine J.aload_n dL_990 rfl ?_
  refine J.arg (k := 1) (by omega) hL rfl rfl (by decide) dL_991 dL_992 dL_993 dL_994 dL_995 ?_
  refine J.arg (k := 2) (by omega) hL rfl rfl (by decide) dL_996 dL_997 dL_998 dL_999 dL_1000 ?_
  refine J.arg (k := 3) (by omega) hL rfl rfl (by decide) dL_1001 dL_1002 dL_1003 dL_1004 dL_1005 ?_
  refine J.callM (mc := mX8_week) (As := [.int (Z.2.2.1 (i + 1)), .int (Z.2.2.1 (i + 2)), .int (Z.2.2.1 (i + 3))]) (st := [.int r]) dL_1006 lkL_133 hfX8_week rfl rfl (by decide) (Nat.le_of_ble_eq_true rfl) (Nat.le_of_ble_eq_true rfl) (vX8_week m1 ?_)
  show J Z 1009 (lLs Z i) [.int r, .int r] σ' τ'
  refine J.icmp_eqT (tgt := 1309) dL_1009 (by decide) ?_
  exact hl B σ' τ' hB c2 m2
theorem lcs_29 {Z : vSt} {i : Nat} {A : vA} {σ τ : vMem} (hA : WA A) (hR : RC A σ) (hM : RM A τ) (hL : Z.2.1 ≤ 384) (hi : i + 6 ≤ Z.2.1) (hl : ∀ B σ' τ', WA B → RC B σ' → RM B τ' → J Z 1309 (lLs Z i) [] σ' τ') : J Z 1014 (lLs Z i) [] σ τ := by
  obtain ⟨r, B, hB, hc, hm⟩ := q_sheet hA (Z.2.2.1 (i + 1)) (Z.2.2.1 (i + 2)) (Z.2.2.1 (i + 3))
  obtain ⟨σ', c1, c2⟩ := hc σ hR
  obtain ⟨τ', m1, m2⟩ := hm τ hM
  refine J.aload_n dL_1014 rfl ?_
  refine J.arg (k := 1) (by omega) hL rfl rfl (by decide) dL_1015 dL_1016 dL_1017 dL_1018 dL_1019 ?_
  refine J.arg (k := 2) (by omega) hL rfl rfl (by decide) dL_1020 dL_1021 dL_1022 dL_1023 dL_1024 ?_
  refine J.arg (k := 3) (by omega) hL rfl rfl (by decide) dL_1025 dL_1026 dL_1027 dL_1028 dL_1029 ?_
  refine J.callC (mc := mX7_sheet) (As := [.int (Z.2.2.1 (i + 1)), .int (Z.2.2.1 (i + 2)), .int (Z.2.2.1 (i + 3))]) (st := []) dL_1030 lkL_134 hfX7_sheet rfl rfl (by decide) (Nat.le_of_ble_eq_true rfl) (Nat.le_of_ble_eq_true rfl) (vX7_sheet c1 ?_)
  show J Z 1033 (lLs Z i) [.int r] σ' τ
  refine J.aload_n dL_1033 rfl ?_
  refine J.arg (k := 1) (by omega) hL rfl rfl (by decide) dL_1034 dL_1035 dL_1036 dL_1037 dL_1038 ?_
  refine J.arg (k := 2) (by omega) hL rfl rfl (by decide) dL_1039 dL_1040 dL_1041 dL_1042 dL_1043 ?_
  refine J.arg (k := 3) (by omega) hL rfl rfl (by decide) dL_1044 dL_1045 dL_1046 dL_1047 dL_1048 ?_
  refine J.callM (mc := mX8_sheet) (As := [.int (Z.2.2.1 (i + 1)), .int (Z.2.2.1 (i + 2)), .int (Z.2.2.1 (i + 3))]) (st := [.int r]) dL_1049 lkL_137 hfX8_sheet rfl rfl (by decide) (Nat.le_of_ble_eq_true rfl) (Nat.le_of_ble_eq_true rfl) (vX8_sheet m1 ?_)
  show J Z 1052 (lLs Z i) [.int r, .int r] σ' τ'
  refine J.icmp_eqT (tgt := 1309) dL_1052 (by decide) ?_
  exact hl B σ' τ' hB c2 m2
theorem lcs_30 {Z : vSt} {i : Nat} {A : vA} {σ τ : vMem} (hA : WA A) (hR : RC A σ) (hM : RM A τ) (hL : Z.2.1 ≤ 384) (hi : i + 6 ≤ Z.2.1) (hl : ∀ B σ' τ', WA B → RC B σ' → RM B τ' → J Z 1309 (lLs Z i) [] σ' τ') : J Z 1057 (lLs Z i) [] σ τ := by
  obtain ⟨r, B, hB, hc, hm⟩ := q_lose hA (Z.2.2.1 (i + 1))
  obtain ⟨σ', c1, c2⟩ := hc σ hR
  obtain ⟨τ', m1, m2⟩ := hm τ hM
  refine J.aload_n dL_1057 rfl ?_
  refine J.arg (k := 1) (by omega) hL rfl rfl (by decide) dL_1058 dL_1059 dL_1060 dL_1061 dL_1062 ?_
  refine J.callC (mc := mX7_lose) (As := [.int (Z.2.2.1 (i + 1))]) (st := []) dL_1063 lkL_138 hfX7_lose rfl rfl (by decide) (Nat.le_of_ble_eq_true rfl) (Nat.le_of_ble_eq_true rfl) (vX7_lose c1 ?_)
  show J Z 1066 (lLs Z i) [.int r] σ' τ
  refine J.aload_n dL_1066 rfl ?_
  refine J.arg (k := 1) (by omega) hL rfl rfl (by decide) dL_1067 dL_1068 dL_1069 dL_1070 dL_1071 ?_
  refine J.callM (mc := mX8_lose) (As := [.int (Z.2.2.1 (i + 1))]) (st := [.int r]) dL_1072 lkL_141 hfX8_lose rfl rfl (by decide) (Nat.le_of_ble_eq_true rfl) (Nat.le_of_ble_eq_true rfl) (vX8_lose m1 ?_)
  show J Z 1075 (lLs Z i) [.int r, .int r] σ' τ'
  refine J.icmp_eqT (tgt := 1309) dL_1075 (by decide) ?_
  exact hl B σ' τ' hB c2 m2
theorem lcs_31 {Z : vSt} {i : Nat} {A : vA} {σ τ : vMem} (hA : WA A) (hR : RC A σ) (hM : RM A τ) (hL : Z.2.1 ≤ 384) (hi : i + 6 ≤ Z.2.1) (hl : ∀ B σ' τ', WA B → RC B σ' → RM B τ' → J Z 1309 (lLs Z i) [] σ' τ') : J Z 1080 (lLs Z i) [] σ τ := by
  obtain ⟨r, B, hB, hc, hm⟩ := q_put hA (Z.2.2.1 (i + 1)) (Z.2.2.1 (i + 2)) (Z.2.2.1 (i + 3)) (Z.2.2.1 (i + 4))
  obtain ⟨σ', c1, c2⟩ := hc σ hR
  obtain ⟨τ', m1, m2⟩ := hm τ hM
  refine J.aload_n dL_1080 rfl ?_
  refine J.arg (k := 1) (by omega) hL rfl rfl (by decide) dL_1081 dL_1082 dL_1083 dL_1084 dL_1085 ?_
  refine J.arg (k := 2) (by omega) hL rfl rfl (by decide) dL_1086 dL_1087 dL_1088 dL_1089 dL_1090 ?_
  refine J.arg (k := 3) (by omega) hL rfl rfl (by decide) dL_1091 dL_1092 dL_1093 dL_1094 dL_1095 ?_
  refine J.arg (k := 4) (by omega) hL rfl rfl (by decide) dL_1096 dL_1097 dL_1098 dL_1099 dL_1100 ?_
  refine J.callC (mc := mX7_put) (As := [.int (Z.2.2.1 (i + 1)), .int (Z.2.2.1 (i + 2)), .int (Z.2.2.1 (i + 3)), .int (Z.2.2.1 (i + 4))]) (st := []) dL_1101 lkL_142 hfX7_put rfl rfl (by decide) (Nat.le_of_ble_eq_true rfl) (Nat.le_of_ble_eq_true rfl) (vX7_put c1 ?_)
  show J Z 1104 (lLs Z i) [.int r] σ' τ
  refine J.aload_n dL_1104 rfl ?_
  refine J.arg (k := 1) (by omega) hL rfl rfl (by decide) dL_1105 dL_1106 dL_1107 dL_1108 dL_1109 ?_
  refine J.arg (k := 2) (by omega) hL rfl rfl (by decide) dL_1110 dL_1111 dL_1112 dL_1113 dL_1114 ?_
  refine J.arg (k := 3) (by omega) hL rfl rfl (by decide) dL_1115 dL_1116 dL_1117 dL_1118 dL_1119 ?_
  refine J.arg (k := 4) (by omega) hL rfl rfl (by decide) dL_1120 dL_1121 dL_1122 dL_1123 dL_1124 ?_
  refine J.callM (mc := mX8_put) (As := [.int (Z.2.2.1 (i + 1)), .int (Z.2.2.1 (i + 2)), .int (Z.2.2.1 (i + 3)), .int (Z.2.2.1 (i + 4))]) (st := [.int r]) dL_1125 lkL_146 hfX8_put rfl rfl (by decide) (Nat.le_of_ble_eq_true rfl) (Nat.le_of_ble_eq_true rfl) (vX8_put m1 ?_)
  show J Z 1128 (lLs Z i) [.int r, .int r] σ' τ'
  refine J.icmp_eqT (tgt := 1309) dL_1128 (by decide) ?_
  exact hl B σ' τ' hB c2 m2
theorem lcs_32 {Z : vSt} {i : Nat} {A : vA} {σ τ : vMem} (hA : WA A) (hR : RC A σ) (hM : RM A τ) (hL : Z.2.1 ≤ 384) (hi : i + 6 ≤ Z.2.1) (hl : ∀ B σ' τ', WA B → RC B σ' → RM B τ' → J Z 1309 (lLs Z i) [] σ' τ') : J Z 1133 (lLs Z i) [] σ τ := by
  obtain ⟨r, B, hB, hc, hm⟩ := q_get hA (Z.2.2.1 (i + 1)) (Z.2.2.1 (i + 2)) (Z.2.2.1 (i + 3))
  obtain ⟨σ', c1, c2⟩ := hc σ hR
  obtain ⟨τ', m1, m2⟩ := hm τ hM
  refine J.aload_n dL_1133 rfl ?_
  refine J.arg (k := 1) (by omega) hL rfl rfl (by decide) dL_1134 dL_1135 dL_1136 dL_1137 dL_1138 ?_
  refine J.arg (k := 2) (by omega) hL rfl rfl (by decide) dL_1139 dL_1140 dL_1141 dL_1142 dL_1143 ?_
  refine J.arg (k := 3) (by omega) hL rfl rfl (by decide) dL_1144 dL_1145 dL_1146 dL_1147 dL_1148 ?_
  refine J.callC (mc := mX7_get) (As := [.int (Z.2.2.1 (i + 1)), .int (Z.2.2.1 (i + 2)), .int (Z.2.2.1 (i + 3))]) (st := []) dL_1149 lkL_147 hfX7_get rfl rfl (by decide) (Nat.le_of_ble_eq_true rfl) (Nat.le_of_ble_eq_true rfl) (vX7_get c1 ?_)
  show J Z 1152 (lLs Z i) [.int r] σ' τ
  refine J.aload_n dL_1152 rfl ?_
  refine J.arg (k := 1) (by omega) hL rfl rfl (by decide) dL_1153 dL_1154 dL_1155 dL_1156 dL_1157 ?_
  refine J.arg (k := 2) (by omega) hL rfl rfl (by decide) dL_1158 dL_1159 dL_1160 dL_1161 dL_1162 ?_
  refine J.arg (k := 3) (by omega) hL rfl rfl (by decide) dL_1163 dL_1164 dL_1165 dL_1166 dL_1167 ?_
  refine J.callM (mc := mX8_get) (As := [.int (Z.2.2.1 (i + 1)), .int (Z.2.2.1 (i + 2)), .int (Z.2.2.1 (i + 3))]) (st := [.int r]) dL_1168 lkL_150 hfX8_get rfl rfl (by decide) (Nat.le_of_ble_eq_true rfl) (Nat.le_of_ble_eq_true rfl) (vX8_get m1 ?_)
  show J Z 1171 (lLs Z i) [.int r, .int r] σ' τ'
  refine J.icmp_eqT (tgt := 1309) dL_1171 (by decide) ?_
  exact hl B σ' τ' hB c2 m2
theorem lcs_33 {Z : vSt} {i : Nat} {A : vA} {σ τ : vMem} (hA : WA A) (hR : RC A σ) (hM : RM A τ) (hL : Z.2.1 ≤ 384) (hi : i + 6 ≤ Z.2.1) (hl : ∀ B σ' τ', WA B → RC B σ' → RM B τ' → J Z 1309 (lLs Z i) [] σ' τ') : J Z 1176 (lLs Z i) [] σ τ := by
  obtain ⟨r, B, hB, hc, hm⟩ := q_copy hA (Z.2.2.1 (i + 1)) (Z.2.2.1 (i + 2)) (Z.2.2.1 (i + 3)) (Z.2.2.1 (i + 4)) (Z.2.2.1 (i + 5))
  obtain ⟨σ', c1, c2⟩ := hc σ hR
  obtain ⟨τ', m1, m2⟩ := hm τ hM
  refine J.aload_n dL_1176 rfl ?_
  refine J.arg (k := 1) (by omega) hL rfl rfl (by decide) dL_1177 dL_1178 dL_1179 dL_1180 dL_1181 ?_
  refine J.arg (k := 2) (by omega) hL rfl rfl (by decide) dL_1182 dL_1183 dL_1184 dL_1185 dL_1186 ?_
  refine J.arg (k := 3) (by omega) hL rfl rfl (by decide) dL_1187 dL_1188 dL_1189 dL_1190 dL_1191 ?_
  refine J.arg (k := 4) (by omega) hL rfl rfl (by decide) dL_1192 dL_1193 dL_1194 dL_1195 dL_1196 ?_
  refine J.arg (k := 5) (by omega) hL rfl rfl (by decide) dL_1197 dL_1198 dL_1199 dL_1200 dL_1201 ?_
  refine J.callC (mc := mX7_copy) (As := [.int (Z.2.2.1 (i + 1)), .int (Z.2.2.1 (i + 2)), .int (Z.2.2.1 (i + 3)), .int (Z.2.2.1 (i + 4)), .int (Z.2.2.1 (i + 5))]) (st := []) dL_1202 lkL_151 hfX7_copy rfl rfl (by decide) (Nat.le_of_ble_eq_true rfl) (Nat.le_of_ble_eq_true rfl) (vX7_copy c1 ?_)
  show J Z 1205 (lLs Z i) [.int r] σ' τ
  refine J.aload_n dL_1205 rfl ?_
  refine J.arg (k := 1) (by omega) hL rfl rfl (by decide) dL_1206 dL_1207 dL_1208 dL_1209 dL_1210 ?_
  refine J.arg (k := 2) (by omega) hL rfl rfl (by decide) dL_1211 dL_1212 dL_1213 dL_1214 dL_1215 ?_
  refine J.arg (k := 3) (by omega) hL rfl rfl (by decide) dL_1216 dL_1217 dL_1218 dL_1219 dL_1220 ?_
  refine J.arg (k := 4) (by omega) hL rfl rfl (by decide) dL_1221 dL_1222 dL_1223 dL_1224 dL_1225 ?_
  refine J.arg (k := 5) (by omega) hL rfl rfl (by decide) dL_1226 dL_1227 dL_1228 dL_1229 dL_1230 ?_
  refine J.callM (mc := mX8_copy) (As := [.int (Z.2.2.1 (i + 1)), .int (Z.2.2.1 (i + 2)), .int (Z.2.2.1 (i + 3)), .int (Z.2.2.1 (i + 4)), .int (Z.2.2.1 (i + 5))]) (st := [.int r]) dL_1231 lkL_155 hfX8_copy rfl rfl (by decide) (Nat.le_of_ble_eq_true rfl) (Nat.le_of_ble_eq_true rfl) (vX8_copy m1 ?_)
  show J Z 1234 (lLs Z i) [.int r, .int r] σ' τ'
  refine J.icmp_eqT (tgt := 1309) dL_1234 (by decide) ?_
  exact hl B σ' τ' hB c2 m2
theorem lcs_34 {Z : vSt} {i : Nat} {A : vA} {σ τ : vMem} (hA : WA A) (hR : RC A σ) (hM : RM A τ) (hL : Z.2.1 ≤ 384) (hi : i + 6 ≤ Z.2.1) (hl : ∀ B σ' τ', WA B → RC B σ' → RM B τ' → J Z 1309 (lLs Z i) [] σ' τ') : J Z 1239 (lLs Z i) [] σ τ := by
  obtain ⟨r, B, hB, hc, hm⟩ := q_write hA (Z.2.2.1 (i + 1)) (Z.2.2.1 (i + 2))
  obtain ⟨σ', c1, c2⟩ := hc σ hR
  obtain ⟨τ', m1, m2⟩ := hm τ hM
  refine J.aload_n dL_1239 rfl ?_
  refine J.arg (k := 1) (by omega) hL rfl rfl (by decide) dL_1240 dL_1241 dL_1242 dL_1243 dL_1244 ?_
  refine J.arg (k := 2) (by omega) hL rfl rfl (by decide) dL_1245 dL_1246 dL_1247 dL_1248 dL_1249 ?_
  refine J.callC (mc := mX7_write) (As := [.int (Z.2.2.1 (i + 1)), .int (Z.2.2.1 (i + 2))]) (st := []) dL_1250 lkL_156 hfX7_write rfl rfl (by decide) (Nat.le_of_ble_eq_true rfl) (Nat.le_of_ble_eq_true rfl) (vX7_write c1 ?_)
  show J Z 1253 (lLs Z i) [.int r] σ' τ
  refine J.aload_n dL_1253 rfl ?_
  refine J.arg (k := 1) (by omega) hL rfl rfl (by decide) dL_1254 dL_1255 dL_1256 dL_1257 dL_1258 ?_
  refine J.arg (k := 2) (by omega) hL rfl rfl (by decide) dL_1259 dL_1260 dL_1261 dL_1262 dL_1263 ?_
  refine J.callM (mc := mX8_write) (As := [.int (Z.2.2.1 (i + 1)), .int (Z.2.2.1 (i + 2))]) (st := [.int r]) dL_1264 lkL_159 hfX8_write rfl rfl (by decide) (Nat.le_of_ble_eq_true rfl) (Nat.le_of_ble_eq_true rfl) (vX8_write m1 ?_)
  show J Z 1267 (lLs Z i) [.int r, .int r] σ' τ'
  refine J.icmp_eqT (tgt := 1309) dL_1267 (by decide) ?_
  exact hl B σ' τ' hB c2 m2
theorem lcs_35 {Z : vSt} {i : Nat} {A : vA} {σ τ : vMem} (hA : WA A) (hR : RC A σ) (hM : RM A τ) (hL : Z.2.1 ≤ 384) (hi : i + 6 ≤ Z.2.1) (hl : ∀ B σ' τ', WA B → RC B σ' → RM B τ' → J Z 1309 (lLs Z i) [] σ' τ') : J Z 1272 (lLs Z i) [] σ τ := by
  obtain ⟨r, B, hB, hc, hm⟩ := q_count hA (Z.2.2.1 (i + 1))
  obtain ⟨σ', c1, c2⟩ := hc σ hR
  obtain ⟨τ', m1, m2⟩ := hm τ hM
  refine J.aload_n dL_1272 rfl ?_
  refine J.arg (k := 1) (by omega) hL rfl rfl (by decide) dL_1273 dL_1274 dL_1275 dL_1276 dL_1277 ?_
  refine J.callC (mc := mX7_count) (As := [.int (Z.2.2.1 (i + 1))]) (st := []) dL_1278 lkL_160 hfX7_count rfl rfl (by decide) (Nat.le_of_ble_eq_true rfl) (Nat.le_of_ble_eq_true rfl) (vX7_count c1 ?_)
  show J Z 1281 (lLs Z i) [.int r] σ' τ
  refine J.aload_n dL_1281 rfl ?_
  refine J.arg (k := 1) (by omega) hL rfl rfl (by decide) dL_1282 dL_1283 dL_1284 dL_1285 dL_1286 ?_
  refine J.callM (mc := mX8_count) (As := [.int (Z.2.2.1 (i + 1))]) (st := [.int r]) dL_1287 lkL_163 hfX8_count rfl rfl (by decide) (Nat.le_of_ble_eq_true rfl) (Nat.le_of_ble_eq_true rfl) (vX8_count m1 ?_)
  show J Z 1290 (lLs Z i) [.int r, .int r] σ' τ'
  refine J.icmp_eqT (tgt := 1309) dL_1290 (by decide) ?_
  exact hl B σ' τ' hB c2 m2
theorem lcs_36 {Z : vSt} {i : Nat} {A : vA} {σ τ : vMem} (hA : WA A) (hR : RC A σ) (hM : RM A τ) (hL : Z.2.1 ≤ 384) (hi : i + 6 ≤ Z.2.1) (hl : ∀ B σ' τ', WA B → RC B σ' → RM B τ' → J Z 1309 (lLs Z i) [] σ' τ') : J Z 1295 (lLs Z i) [] σ τ := by
  obtain ⟨r, B, hB, hc, hm⟩ := q_digest hA
  obtain ⟨σ', c1, c2⟩ := hc σ hR
  obtain ⟨τ', m1, m2⟩ := hm τ hM
  refine J.aload_n dL_1295 rfl ?_
  refine J.callC (mc := mX7_digest) (As := []) (st := []) dL_1296 lkL_164 hfX7_digest rfl rfl (by decide) (Nat.le_of_ble_eq_true rfl) (Nat.le_of_ble_eq_true rfl) (vX7_digest c1 ?_)
  show J Z 1299 (lLs Z i) [.long r] σ' τ
  refine J.aload_n dL_1299 rfl ?_
  refine J.callM (mc := mX8_digest) (As := []) (st := [.long r]) dL_1300 lkL_168 hfX8_digest rfl rfl (by decide) (Nat.le_of_ble_eq_true rfl) (Nat.le_of_ble_eq_true rfl) (vX8_digest m1 ?_)
  show J Z 1303 (lLs Z i) [.long r, .long r] σ' τ'
  refine J.lcmpT (tgt := 1309) dL_1303 dL_1304 (by decide) ?_
  exact hl B σ' τ' hB c2 m2
