theorem lidx1 {i L : Nat} (hi : i + 7 ≤ L) (hL : L ≤ 3584) : vp_in (nI i + (1 : Int32)) L := by
  have e : nI i + (1 : Int32) = nI (i + 1) := nI_add i 1
  rw [e]
  exact vp_in_nI (by omega) (by omega)
theorem lidx2 {i L : Nat} (hi : i + 7 ≤ L) (hL : L ≤ 3584) : vp_in (nI i + (2 : Int32)) L := by
  have e : nI i + (2 : Int32) = nI (i + 2) := nI_add i 2
  rw [e]
  exact vp_in_nI (by omega) (by omega)
theorem lidx3 {i L : Nat} (hi : i + 7 ≤ L) (hL : L ≤ 3584) : vp_in (nI i + (3 : Int32)) L := by
  have e : nI i + (3 : Int32) = nI (i + 3) := nI_add i 3
  rw [e]
  exact vp_in_nI (by omega) (by omega)
theorem lidx4 {i L : Nat} (hi : i + 7 ≤ L) (hL : L ≤ 3584) : vp_in (nI i + (4 : Int32)) L := by
  have e : nI i + (4 : Int32) = nI (i + 4) := nI_add i 4
  rw [e]
  exact vp_in_nI (by omega) (by omega)
theorem lidx5 {i L : Nat} (hi : i + 7 ≤ L) (hL : L ≤ 3584) : vp_in (nI i + (5 : Int32)) L := by
  have e : nI i + (5 : Int32) = nI (i + 5) := nI_add i 5
  rw [e]
  exact vp_in_nI (by omega) (by omega)
theorem lidx6 {i L : Nat} (hi : i + 7 ≤ L) (hL : L ≤ 3584) : vp_in (nI i + (6 : Int32)) L := by
  have e : nI i + (6 : Int32) = nI (i + 6) := nI_add i 6
  rw [e]
  exact vp_in_nI (by omega) (by omega)
theorem lcmp_self (r : Int64) : lg_cmp r r = 0 := by
  simp [lg_cmp]
section LW
variable {p : Program} {e : Env} {s : State} {m : MethodId} {below : List Frame} {meth : Method} {c : Code} {b L : Nat} {xs : Nat → Int32} {G : xG}
set_option maxRecDepth 100000 in
set_option maxHeartbeats 4000000 in
theorem law_0 (hC : lCx p e s m below meth c b L xs G) (hL : L ≤ 3584) {i : Nat} (hi : i + 7 ≤ L) {μ ν : xM} (hR : xRel μ ν) (next : ∀ μ2 ν2 : xM, xRel μ2 ν2 → lR p e s m below meth c b G 1483 [(0, .ref b), (1, .ref (xa G 81)), (2, .ref (xa G 85)), (3, .int (nI i))] [] (μ2, ν2)) : lR p e s m below meth c b G 220 [(0, .ref b), (1, .ref (xa G 81)), (2, .ref (xa G 85)), (3, .int (nI i))] [] (μ, ν) := by
  obtain ⟨r, μ2, ν2, h1, h2, h3⟩ := st_town hR 
  refine lR_aln hC 220 1 d_law_220 rfl rfl ?_
  refine lR_call hC 221 lcv_H_town llaw_13 ⟨Nat.le_of_ble_eq_true rfl, Nat.le_of_ble_eq_true rfl⟩ xcf6 rfl 81 (by decide) rfl [] rfl rfl (Nat.le_of_ble_eq_true rfl) d_law_221 (r := some (.int r)) (S2 := (μ2, ν)) (kH_town G ν μ  _ h1) ?_
  refine lR_aln hC 224 2 d_law_224 rfl rfl ?_
  refine lR_call hC 225 lcv_M_town llaw_17 ⟨Nat.le_of_ble_eq_true rfl, Nat.le_of_ble_eq_true rfl⟩ xcf7 rfl 85 (by decide) rfl [] rfl rfl (Nat.le_of_ble_eq_true rfl) d_law_225 (r := some (.int r)) (S2 := (μ2, ν2)) (kM_town G μ2 ν  _ h2) ?_
  exact lR_iceq hC 228 1483 d_law_228 (by decide) rfl (next _ _ h3)
set_option maxRecDepth 100000 in
set_option maxHeartbeats 4000000 in
theorem law_1 (hC : lCx p e s m below meth c b L xs G) (hL : L ≤ 3584) {i : Nat} (hi : i + 7 ≤ L) {μ ν : xM} (hR : xRel μ ν) (next : ∀ μ2 ν2 : xM, xRel μ2 ν2 → lR p e s m below meth c b G 1483 [(0, .ref b), (1, .ref (xa G 81)), (2, .ref (xa G 85)), (3, .int (nI i))] [] (μ2, ν2)) : lR p e s m below meth c b G 233 [(0, .ref b), (1, .ref (xa G 81)), (2, .ref (xa G 85)), (3, .int (nI i))] [] (μ, ν) := by
  obtain ⟨r, μ2, ν2, h1, h2, h3⟩ := st_wet hR (xs (nI i + (1 : Int32)).toNatClampNeg) (xs (nI i + (2 : Int32)).toNatClampNeg)
  refine lR_aln hC 233 1 d_law_233 rfl rfl ?_
  refine lR_aln hC 234 0 d_law_234 rfl rfl ?_
  refine lR_iln hC 235 3 d_law_235 rfl rfl ?_
  refine lR_ic hC 236 (1 : Int32) d_law_236 (by decide) ?_
  refine lR_iadd hC 237 d_law_237 ?_
  refine lR_sld hC 238 (lidx1 hi hL) d_law_238 ?_
  refine lR_aln hC 239 0 d_law_239 rfl rfl ?_
  refine lR_iln hC 240 3 d_law_240 rfl rfl ?_
  refine lR_ic hC 241 (2 : Int32) d_law_241 (by decide) ?_
  refine lR_iadd hC 242 d_law_242 ?_
  refine lR_sld hC 243 (lidx2 hi hL) d_law_243 ?_
  refine lR_call hC 244 lcv_H_wet llaw_18 ⟨Nat.le_of_ble_eq_true rfl, Nat.le_of_ble_eq_true rfl⟩ xcf6 rfl 81 (by decide) rfl [.int (xs (nI i + (1 : Int32)).toNatClampNeg), .int (xs (nI i + (2 : Int32)).toNatClampNeg)] rfl rfl (Nat.le_of_ble_eq_true rfl) d_law_244 (r := some (.int r)) (S2 := (μ2, ν)) (kH_wet G ν μ (xs (nI i + (1 : Int32)).toNatClampNeg) (xs (nI i + (2 : Int32)).toNatClampNeg) _ h1) ?_
  refine lR_aln hC 247 2 d_law_247 rfl rfl ?_
  refine lR_aln hC 248 0 d_law_248 rfl rfl ?_
  refine lR_iln hC 249 3 d_law_249 rfl rfl ?_
  refine lR_ic hC 250 (1 : Int32) d_law_250 (by decide) ?_
  refine lR_iadd hC 251 d_law_251 ?_
  refine lR_sld hC 252 (lidx1 hi hL) d_law_252 ?_
  refine lR_aln hC 253 0 d_law_253 rfl rfl ?_
  refine lR_iln hC 254 3 d_law_254 rfl rfl ?_
  refine lR_ic hC 255 (2 : Int32) d_law_255 (by decide) ?_
  refine lR_iadd hC 256 d_law_256 ?_
  refine lR_sld hC 257 (lidx2 hi hL) d_law_257 ?_
  refine lR_call hC 258 lcv_M_wet llaw_22 ⟨Nat.le_of_ble_eq_true rfl, Nat.le_of_ble_eq_true rfl⟩ xcf7 rfl 85 (by decide) rfl [.int (xs (nI i + (1 : Int32)).toNatClampNeg), .int (xs (nI i + (2 : Int32)).toNatClampNeg)] rfl rfl (Nat.le_of_ble_eq_true rfl) d_law_258 (r := some (.int r)) (S2 := (μ2, ν2)) (kM_wet G μ2 ν (xs (nI i + (1 : Int32)).toNatClampNeg) (xs (nI i + (2 : Int32)).toNatClampNeg) _ h2) ?_
  exact lR_iceq hC 261 1483 d_law_261 (by decide) rfl (next _ _ h3)
set_option maxRecDepth 100000 in
set_option maxHeartbeats 4000000 in
theorem law_2 (hC : lCx p e s m below meth c b L xs G) (hL : L ≤ 3584) {i : Nat} (hi : i + 7 ≤ L) {μ ν : xM} (hR : xRel μ ν) (next : ∀ μ2 ν2 : xM, xRel μ2 ν2 → lR p e s m below meth c b G 1483 [(0, .ref b), (1, .ref (xa G 81)), (2, .ref (xa G 85)), (3, .int (nI i))] [] (μ2, ν2)) : lR p e s m below meth c b G 266 [(0, .ref b), (1, .ref (xa G 81)), (2, .ref (xa G 85)), (3, .int (nI i))] [] (μ, ν) := by
  obtain ⟨r, μ2, ν2, h1, h2, h3⟩ := st_board hR (xs (nI i + (1 : Int32)).toNatClampNeg) (xs (nI i + (2 : Int32)).toNatClampNeg) (xs (nI i + (3 : Int32)).toNatClampNeg) (xs (nI i + (4 : Int32)).toNatClampNeg)
  refine lR_aln hC 266 1 d_law_266 rfl rfl ?_
  refine lR_aln hC 267 0 d_law_267 rfl rfl ?_
  refine lR_iln hC 268 3 d_law_268 rfl rfl ?_
  refine lR_ic hC 269 (1 : Int32) d_law_269 (by decide) ?_
  refine lR_iadd hC 270 d_law_270 ?_
  refine lR_sld hC 271 (lidx1 hi hL) d_law_271 ?_
  refine lR_aln hC 272 0 d_law_272 rfl rfl ?_
  refine lR_iln hC 273 3 d_law_273 rfl rfl ?_
  refine lR_ic hC 274 (2 : Int32) d_law_274 (by decide) ?_
  refine lR_iadd hC 275 d_law_275 ?_
  refine lR_sld hC 276 (lidx2 hi hL) d_law_276 ?_
  refine lR_aln hC 277 0 d_law_277 rfl rfl ?_
  refine lR_iln hC 278 3 d_law_278 rfl rfl ?_
  refine lR_ic hC 279 (3 : Int32) d_law_279 (by decide) ?_
  refine lR_iadd hC 280 d_law_280 ?_
  refine lR_sld hC 281 (lidx3 hi hL) d_law_281 ?_
  refine lR_aln hC 282 0 d_law_282 rfl rfl ?_
  refine lR_iln hC 283 3 d_law_283 rfl rfl ?_
  refine lR_ic hC 284 (4 : Int32) d_law_284 (by decide) ?_
  refine lR_iadd hC 285 d_law_285 ?_
  refine lR_sld hC 286 (lidx4 hi hL) d_law_286 ?_
  refine lR_call hC 287 lcv_H_board llaw_23 ⟨Nat.le_of_ble_eq_true rfl, Nat.le_of_ble_eq_true rfl⟩ xcf6 rfl 81 (by decide) rfl [.int (xs (nI i + (1 : Int32)).toNatClampNeg), .int (xs (nI i + (2 : Int32)).toNatClampNeg), .int (xs (nI i + (3 : Int32)).toNatClampNeg), .int (xs (nI i + (4 : Int32)).toNatClampNeg)] rfl rfl (Nat.le_of_ble_eq_true rfl) d_law_287 (r := some (.int r)) (S2 := (μ2, ν)) (kH_board G ν μ (xs (nI i + (1 : Int32)).toNatClampNeg) (xs (nI i + (2 : Int32)).toNatClampNeg) (xs (nI i + (3 : Int32)).toNatClampNeg) (xs (nI i + (4 : Int32)).toNatClampNeg) _ h1) ?_
  refine lR_aln hC 290 2 d_law_290 rfl rfl ?_
  refine lR_aln hC 291 0 d_law_291 rfl rfl ?_
  refine lR_iln hC 292 3 d_law_292 rfl rfl ?_
  refine lR_ic hC 293 (1 : Int32) d_law_293 (by decide) ?_
  refine lR_iadd hC 294 d_law_294 ?_
  refine lR_sld hC 295 (lidx1 hi hL) d_law_295 ?_
  refine lR_aln hC 296 0 d_law_296 rfl rfl ?_
  refine lR_iln hC 297 3 d_law_297 rfl rfl ?_
  refine lR_ic hC 298 (2 : Int32) d_law_298 (by decide) ?_
  refine lR_iadd hC 299 d_law_299 ?_
  refine lR_sld hC 300 (lidx2 hi hL) d_law_300 ?_
  refine lR_aln hC 301 0 d_law_301 rfl rfl ?_
  refine lR_iln hC 302 3 d_law_302 rfl rfl ?_
  refine lR_ic hC 303 (3 : Int32) d_law_303 (by decide) ?_
  refine lR_iadd hC 304 d_law_304 ?_
  refine lR_sld hC 305 (lidx3 hi hL) d_law_305 ?_
  refine lR_aln hC 306 0 d_law_306 rfl rfl ?_
  refine lR_iln hC 307 3 d_law_307 rfl rfl ?_
  refine lR_ic hC 308 (4 : Int32) d_law_308 (by decide) ?_
  refine lR_iadd hC 309 d_law_309 ?_
  refine lR_sld hC 310 (lidx4 hi hL) d_law_310 ?_
  refine lR_call hC 311 lcv_M_board llaw_27 ⟨Nat.le_of_ble_eq_true rfl, Nat.le_of_ble_eq_true rfl⟩ xcf7 rfl 85 (by decide) rfl [.int (xs (nI i + (1 : Int32)).toNatClampNeg), .int (xs (nI i + (2 : Int32)).toNatClampNeg), .int (xs (nI i + (3 : Int32)).toNatClampNeg), .int (xs (nI i + (4 : Int32)).toNatClampNeg)] rfl rfl (Nat.le_of_ble_eq_true rfl) d_law_311 (r := some (.int r)) (S2 := (μ2, ν2)) (kM_board G μ2 ν (xs (nI i + (1 : Int32)).toNatClampNeg) (xs (nI i + (2 : Int32)).toNatClampNeg) (xs (nI i + (3 : Int32)).toNatClampNeg) (xs (nI i + (4 : Int32)).toNatClampNeg) _ h2) ?_
  exact lR_iceq hC 314 1483 d_law_314 (by decide) rfl (next _ _ h3)
set_option maxRecDepth 100000 in
set_option maxHeartbeats 4000000 in
theorem law_3 (hC : lCx p e s m below meth c b L xs G) (hL : L ≤ 3584) {i : Nat} (hi : i + 7 ≤ L) {μ ν : xM} (hR : xRel μ ν) (next : ∀ μ2 ν2 : xM, xRel μ2 ν2 → lR p e s m below meth c b G 1483 [(0, .ref b), (1, .ref (xa G 81)), (2, .ref (xa G 85)), (3, .int (nI i))] [] (μ2, ν2)) : lR p e s m below meth c b G 319 [(0, .ref b), (1, .ref (xa G 81)), (2, .ref (xa G 85)), (3, .int (nI i))] [] (μ, ν) := by
  obtain ⟨r, μ2, ν2, h1, h2, h3⟩ := st_make hR (xs (nI i + (1 : Int32)).toNatClampNeg)
  refine lR_aln hC 319 1 d_law_319 rfl rfl ?_
  refine lR_aln hC 320 0 d_law_320 rfl rfl ?_
  refine lR_iln hC 321 3 d_law_321 rfl rfl ?_
  refine lR_ic hC 322 (1 : Int32) d_law_322 (by decide) ?_
  refine lR_iadd hC 323 d_law_323 ?_
  refine lR_sld hC 324 (lidx1 hi hL) d_law_324 ?_
  refine lR_call hC 325 lcv_H_make llaw_28 ⟨Nat.le_of_ble_eq_true rfl, Nat.le_of_ble_eq_true rfl⟩ xcf6 rfl 81 (by decide) rfl [.int (xs (nI i + (1 : Int32)).toNatClampNeg)] rfl rfl (Nat.le_of_ble_eq_true rfl) d_law_325 (r := some (.int r)) (S2 := (μ2, ν)) (kH_make G ν μ (xs (nI i + (1 : Int32)).toNatClampNeg) _ h1) ?_
  refine lR_aln hC 328 2 d_law_328 rfl rfl ?_
  refine lR_aln hC 329 0 d_law_329 rfl rfl ?_
  refine lR_iln hC 330 3 d_law_330 rfl rfl ?_
  refine lR_ic hC 331 (1 : Int32) d_law_331 (by decide) ?_
  refine lR_iadd hC 332 d_law_332 ?_
  refine lR_sld hC 333 (lidx1 hi hL) d_law_333 ?_
  refine lR_call hC 334 lcv_M_make llaw_32 ⟨Nat.le_of_ble_eq_true rfl, Nat.le_of_ble_eq_true rfl⟩ xcf7 rfl 85 (by decide) rfl [.int (xs (nI i + (1 : Int32)).toNatClampNeg)] rfl rfl (Nat.le_of_ble_eq_true rfl) d_law_334 (r := some (.int r)) (S2 := (μ2, ν2)) (kM_make G μ2 ν (xs (nI i + (1 : Int32)).toNatClampNeg) _ h2) ?_
  exact lR_iceq hC 337 1483 d_law_337 (by decide) rfl (next _ _ h3)
set_option maxRecDepth 100000 in
set_option maxHeartbeats 4000000 in
theorem law_4 (hC : lCx p e s m below meth c b L xs G) (hL : L ≤ 3584) {i : Nat} (hi : i + 7 ≤ L) {μ ν : xM} (hR : xRel μ ν) (next : ∀ μ2 ν2 : xM, xRel μ2 ν2 → lR p e s m below meth c b G 1483 [(0, .ref b), (1, .ref (xa G 81)), (2, .ref (xa G 85)), (3, .int (nI i))] [] (μ2, ν2)) : lR p e s m below meth c b G 342 [(0, .ref b), (1, .ref (xa G 81)), (2, .ref (xa G 85)), (3, .int (nI i))] [] (μ, ν) := by
  obtain ⟨r, μ2, ν2, h1, h2, h3⟩ := st_worm hR (xs (nI i + (1 : Int32)).toNatClampNeg) (xs (nI i + (2 : Int32)).toNatClampNeg)
  refine lR_aln hC 342 1 d_law_342 rfl rfl ?_
  refine lR_aln hC 343 0 d_law_343 rfl rfl ?_
  refine lR_iln hC 344 3 d_law_344 rfl rfl ?_
  refine lR_ic hC 345 (1 : Int32) d_law_345 (by decide) ?_
  refine lR_iadd hC 346 d_law_346 ?_
  refine lR_sld hC 347 (lidx1 hi hL) d_law_347 ?_
  refine lR_aln hC 348 0 d_law_348 rfl rfl ?_
  refine lR_iln hC 349 3 d_law_349 rfl rfl ?_
  refine lR_ic hC 350 (2 : Int32) d_law_350 (by decide) ?_
  refine lR_iadd hC 351 d_law_351 ?_
  refine lR_sld hC 352 (lidx2 hi hL) d_law_352 ?_
  refine lR_call hC 353 lcv_H_worm llaw_33 ⟨Nat.le_of_ble_eq_true rfl, Nat.le_of_ble_eq_true rfl⟩ xcf6 rfl 81 (by decide) rfl [.int (xs (nI i + (1 : Int32)).toNatClampNeg), .int (xs (nI i + (2 : Int32)).toNatClampNeg)] rfl rfl (Nat.le_of_ble_eq_true rfl) d_law_353 (r := some (.int r)) (S2 := (μ2, ν)) (kH_worm G ν μ (xs (nI i + (1 : Int32)).toNatClampNeg) (xs (nI i + (2 : Int32)).toNatClampNeg) _ h1) ?_
  refine lR_aln hC 356 2 d_law_356 rfl rfl ?_
  refine lR_aln hC 357 0 d_law_357 rfl rfl ?_
  refine lR_iln hC 358 3 d_law_358 rfl rfl ?_
  refine lR_ic hC 359 (1 : Int32) d_law_359 (by decide) ?_
  refine lR_iadd hC 360 d_law_360 ?_
  refine lR_sld hC 361 (lidx1 hi hL) d_law_361 ?_
  refine lR_aln hC 362 0 d_law_362 rfl rfl ?_
  refine lR_iln hC 363 3 d_law_363 rfl rfl ?_
  refine lR_ic hC 364 (2 : Int32) d_law_364 (by decide) ?_
  refine lR_iadd hC 365 d_law_365 ?_
  refine lR_sld hC 366 (lidx2 hi hL) d_law_366 ?_
  refine lR_call hC 367 lcv_M_worm llaw_36 ⟨Nat.le_of_ble_eq_true rfl, Nat.le_of_ble_eq_true rfl⟩ xcf7 rfl 85 (by decide) rfl [.int (xs (nI i + (1 : Int32)).toNatClampNeg), .int (xs (nI i + (2 : Int32)).toNatClampNeg)] rfl rfl (Nat.le_of_ble_eq_true rfl) d_law_367 (r := some (.int r)) (S2 := (μ2, ν2)) (kM_worm G μ2 ν (xs (nI i + (1 : Int32)).toNatClampNeg) (xs (nI i + (2 : Int32)).toNatClampNeg) _ h2) ?_
  exact lR_iceq hC 370 1483 d_law_370 (by decide) rfl (next _ _ h3)
set_option maxRecDepth 100000 in
set_option maxHeartbeats 4000000 in
theorem law_5 (hC : lCx p e s m below meth c b L xs G) (hL : L ≤ 3584) {i : Nat} (hi : i + 7 ≤ L) {μ ν : xM} (hR : xRel μ ν) (next : ∀ μ2 ν2 : xM, xRel μ2 ν2 → lR p e s m below meth c b G 1483 [(0, .ref b), (1, .ref (xa G 81)), (2, .ref (xa G 85)), (3, .int (nI i))] [] (μ2, ν2)) : lR p e s m below meth c b G 375 [(0, .ref b), (1, .ref (xa G 81)), (2, .ref (xa G 85)), (3, .int (nI i))] [] (μ, ν) := by
  obtain ⟨r, μ2, ν2, h1, h2, h3⟩ := st_type hR (xs (nI i + (1 : Int32)).toNatClampNeg)
  refine lR_aln hC 375 1 d_law_375 rfl rfl ?_
  refine lR_aln hC 376 0 d_law_376 rfl rfl ?_
  refine lR_iln hC 377 3 d_law_377 rfl rfl ?_
  refine lR_ic hC 378 (1 : Int32) d_law_378 (by decide) ?_
  refine lR_iadd hC 379 d_law_379 ?_
  refine lR_sld hC 380 (lidx1 hi hL) d_law_380 ?_
  refine lR_call hC 381 lcv_H_type llaw_37 ⟨Nat.le_of_ble_eq_true rfl, Nat.le_of_ble_eq_true rfl⟩ xcf6 rfl 81 (by decide) rfl [.int (xs (nI i + (1 : Int32)).toNatClampNeg)] rfl rfl (Nat.le_of_ble_eq_true rfl) d_law_381 (r := some (.int r)) (S2 := (μ2, ν)) (kH_type G ν μ (xs (nI i + (1 : Int32)).toNatClampNeg) _ h1) ?_
  refine lR_aln hC 384 2 d_law_384 rfl rfl ?_
  refine lR_aln hC 385 0 d_law_385 rfl rfl ?_
  refine lR_iln hC 386 3 d_law_386 rfl rfl ?_
  refine lR_ic hC 387 (1 : Int32) d_law_387 (by decide) ?_
  refine lR_iadd hC 388 d_law_388 ?_
  refine lR_sld hC 389 (lidx1 hi hL) d_law_389 ?_
  refine lR_call hC 390 lcv_M_type llaw_40 ⟨Nat.le_of_ble_eq_true rfl, Nat.le_of_ble_eq_true rfl⟩ xcf7 rfl 85 (by decide) rfl [.int (xs (nI i + (1 : Int32)).toNatClampNeg)] rfl rfl (Nat.le_of_ble_eq_true rfl) d_law_390 (r := some (.int r)) (S2 := (μ2, ν2)) (kM_type G μ2 ν (xs (nI i + (1 : Int32)).toNatClampNeg) _ h2) ?_
  exact lR_iceq hC 393 1483 d_law_393 (by decide) rfl (next _ _ h3)
set_option maxRecDepth 100000 in
set_option maxHeartbeats 4000000 in
theorem law_6 (hC : lCx p e s m below meth c b L xs G) (hL : L ≤ 3584) {i : Nat} (hi : i + 7 ≤ L) {μ ν : xM} (hR : xRel μ ν) (next : ∀ μ2 ν2 : xM, xRel μ2 ν2 → lR p e s m below meth c b G 1483 [(0, .ref b), (1, .ref (xa G 81)), (2, .ref (xa G 85)), (3, .int (nI i))] [] (μ2, ν2)) : lR p e s m below meth c b G 398 [(0, .ref b), (1, .ref (xa G 81)), (2, .ref (xa G 85)), (3, .int (nI i))] [] (μ, ν) := by
  obtain ⟨r, μ2, ν2, h1, h2, h3⟩ := st_clear hR 
  refine lR_aln hC 398 1 d_law_398 rfl rfl ?_
  refine lR_call hC 399 lcv_H_clear llaw_41 ⟨Nat.le_of_ble_eq_true rfl, Nat.le_of_ble_eq_true rfl⟩ xcf6 rfl 81 (by decide) rfl [] rfl rfl (Nat.le_of_ble_eq_true rfl) d_law_399 (r := some (.int r)) (S2 := (μ2, ν)) (kH_clear G ν μ  _ h1) ?_
  refine lR_aln hC 402 2 d_law_402 rfl rfl ?_
  refine lR_call hC 403 lcv_M_clear llaw_44 ⟨Nat.le_of_ble_eq_true rfl, Nat.le_of_ble_eq_true rfl⟩ xcf7 rfl 85 (by decide) rfl [] rfl rfl (Nat.le_of_ble_eq_true rfl) d_law_403 (r := some (.int r)) (S2 := (μ2, ν2)) (kM_clear G μ2 ν  _ h2) ?_
  exact lR_iceq hC 406 1483 d_law_406 (by decide) rfl (next _ _ h3)
set_option maxRecDepth 100000 in
set_option maxHeartbeats 4000000 in
theorem law_7 (hC : lCx p e s m below meth c b L xs G) (hL : L ≤ 3584) {i : Nat} (hi : i + 7 ≤ L) {μ ν : xM} (hR : xRel μ ν) (next : ∀ μ2 ν2 : xM, xRel μ2 ν2 → lR p e s m below meth c b G 1483 [(0, .ref b), (1, .ref (xa G 81)), (2, .ref (xa G 85)), (3, .int (nI i))] [] (μ2, ν2)) : lR p e s m below meth c b G 411 [(0, .ref b), (1, .ref (xa G 81)), (2, .ref (xa G 85)), (3, .int (nI i))] [] (μ, ν) := by
  obtain ⟨r, μ2, ν2, h1, h2, h3⟩ := st_read hR 
  refine lR_aln hC 411 1 d_law_411 rfl rfl ?_
  refine lR_call hC 412 lcv_H_read llaw_45 ⟨Nat.le_of_ble_eq_true rfl, Nat.le_of_ble_eq_true rfl⟩ xcf6 rfl 81 (by decide) rfl [] rfl rfl (Nat.le_of_ble_eq_true rfl) d_law_412 (r := some (.int r)) (S2 := (μ2, ν)) (kH_read G ν μ  _ h1) ?_
  refine lR_aln hC 415 2 d_law_415 rfl rfl ?_
  refine lR_call hC 416 lcv_M_read llaw_48 ⟨Nat.le_of_ble_eq_true rfl, Nat.le_of_ble_eq_true rfl⟩ xcf7 rfl 85 (by decide) rfl [] rfl rfl (Nat.le_of_ble_eq_true rfl) d_law_416 (r := some (.int r)) (S2 := (μ2, ν2)) (kM_read G μ2 ν  _ h2) ?_
  exact lR_iceq hC 419 1483 d_law_419 (by decide) rfl (next _ _ h3)
set_option maxRecDepth 100000 in
set_option maxHeartbeats 4000000 in
theorem law_8 (hC : lCx p e s m below meth c b L xs G) (hL : L ≤ 3584) {i : Nat} (hi : i + 7 ≤ L) {μ ν : xM} (hR : xRel μ ν) (next : ∀ μ2 ν2 : xM, xRel μ2 ν2 → lR p e s m below meth c b G 1483 [(0, .ref b), (1, .ref (xa G 81)), (2, .ref (xa G 85)), (3, .int (nI i))] [] (μ2, ν2)) : lR p e s m below meth c b G 424 [(0, .ref b), (1, .ref (xa G 81)), (2, .ref (xa G 85)), (3, .int (nI i))] [] (μ, ν) := by
  obtain ⟨r, μ2, ν2, h1, h2, h3⟩ := st_year hR (xs (nI i + (1 : Int32)).toNatClampNeg)
  refine lR_aln hC 424 1 d_law_424 rfl rfl ?_
  refine lR_aln hC 425 0 d_law_425 rfl rfl ?_
  refine lR_iln hC 426 3 d_law_426 rfl rfl ?_
  refine lR_ic hC 427 (1 : Int32) d_law_427 (by decide) ?_
  refine lR_iadd hC 428 d_law_428 ?_
  refine lR_sld hC 429 (lidx1 hi hL) d_law_429 ?_
  refine lR_call hC 430 lcv_H_year llaw_49 ⟨Nat.le_of_ble_eq_true rfl, Nat.le_of_ble_eq_true rfl⟩ xcf6 rfl 81 (by decide) rfl [.int (xs (nI i + (1 : Int32)).toNatClampNeg)] rfl rfl (Nat.le_of_ble_eq_true rfl) d_law_430 (r := some (.int r)) (S2 := (μ2, ν)) (kH_year G ν μ (xs (nI i + (1 : Int32)).toNatClampNeg) _ h1) ?_
  refine lR_aln hC 433 2 d_law_433 rfl rfl ?_
  refine lR_aln hC 434 0 d_law_434 rfl rfl ?_
  refine lR_iln hC 435 3 d_law_435 rfl rfl ?_
  refine lR_ic hC 436 (1 : Int32) d_law_436 (by decide) ?_
  refine lR_iadd hC 437 d_law_437 ?_
  refine lR_sld hC 438 (lidx1 hi hL) d_law_438 ?_
  refine lR_call hC 439 lcv_M_year llaw_52 ⟨Nat.le_of_ble_eq_true rfl, Nat.le_of_ble_eq_true rfl⟩ xcf7 rfl 85 (by decide) rfl [.int (xs (nI i + (1 : Int32)).toNatClampNeg)] rfl rfl (Nat.le_of_ble_eq_true rfl) d_law_439 (r := some (.int r)) (S2 := (μ2, ν2)) (kM_year G μ2 ν (xs (nI i + (1 : Int32)).toNatClampNeg) _ h2) ?_
  exact lR_iceq hC 442 1483 d_law_442 (by decide) rfl (next _ _ h3)
set_option maxRecDepth 100000 in
set_option maxHeartbeats 4000000 in
theorem law_9 (hC : lCx p e s m below meth c b L xs G) (hL : L ≤ 3584) {i : Nat} (hi : i + 7 ≤ L) {μ ν : xM} (hR : xRel μ ν) (next : ∀ μ2 ν2 : xM, xRel μ2 ν2 → lR p e s m below meth c b G 1483 [(0, .ref b), (1, .ref (xa G 81)), (2, .ref (xa G 85)), (3, .int (nI i))] [] (μ2, ν2)) : lR p e s m below meth c b G 447 [(0, .ref b), (1, .ref (xa G 81)), (2, .ref (xa G 85)), (3, .int (nI i))] [] (μ, ν) := by
  obtain ⟨r, μ2, ν2, h1, h2, h3⟩ := st_cuts hR (xs (nI i + (1 : Int32)).toNatClampNeg) (xs (nI i + (2 : Int32)).toNatClampNeg)
  refine lR_aln hC 447 1 d_law_447 rfl rfl ?_
  refine lR_aln hC 448 0 d_law_448 rfl rfl ?_
  refine lR_iln hC 449 3 d_law_449 rfl rfl ?_
  refine lR_ic hC 450 (1 : Int32) d_law_450 (by decide) ?_
  refine lR_iadd hC 451 d_law_451 ?_
  refine lR_sld hC 452 (lidx1 hi hL) d_law_452 ?_
  refine lR_aln hC 453 0 d_law_453 rfl rfl ?_
  refine lR_iln hC 454 3 d_law_454 rfl rfl ?_
  refine lR_ic hC 455 (2 : Int32) d_law_455 (by decide) ?_
  refine lR_iadd hC 456 d_law_456 ?_
  refine lR_sld hC 457 (lidx2 hi hL) d_law_457 ?_
  refine lR_call hC 458 lcv_H_cuts llaw_53 ⟨Nat.le_of_ble_eq_true rfl, Nat.le_of_ble_eq_true rfl⟩ xcf6 rfl 81 (by decide) rfl [.int (xs (nI i + (1 : Int32)).toNatClampNeg), .int (xs (nI i + (2 : Int32)).toNatClampNeg)] rfl rfl (Nat.le_of_ble_eq_true rfl) d_law_458 (r := some (.int r)) (S2 := (μ2, ν)) (kH_cuts G ν μ (xs (nI i + (1 : Int32)).toNatClampNeg) (xs (nI i + (2 : Int32)).toNatClampNeg) _ h1) ?_
  refine lR_aln hC 461 2 d_law_461 rfl rfl ?_
  refine lR_aln hC 462 0 d_law_462 rfl rfl ?_
  refine lR_iln hC 463 3 d_law_463 rfl rfl ?_
  refine lR_ic hC 464 (1 : Int32) d_law_464 (by decide) ?_
  refine lR_iadd hC 465 d_law_465 ?_
  refine lR_sld hC 466 (lidx1 hi hL) d_law_466 ?_
  refine lR_aln hC 467 0 d_law_467 rfl rfl ?_
  refine lR_iln hC 468 3 d_law_468 rfl rfl ?_
  refine lR_ic hC 469 (2 : Int32) d_law_469 (by decide) ?_
  refine lR_iadd hC 470 d_law_470 ?_
  refine lR_sld hC 471 (lidx2 hi hL) d_law_471 ?_
  refine lR_call hC 472 lcv_M_cuts llaw_56 ⟨Nat.le_of_ble_eq_true rfl, Nat.le_of_ble_eq_true rfl⟩ xcf7 rfl 85 (by decide) rfl [.int (xs (nI i + (1 : Int32)).toNatClampNeg), .int (xs (nI i + (2 : Int32)).toNatClampNeg)] rfl rfl (Nat.le_of_ble_eq_true rfl) d_law_472 (r := some (.int r)) (S2 := (μ2, ν2)) (kM_cuts G μ2 ν (xs (nI i + (1 : Int32)).toNatClampNeg) (xs (nI i + (2 : Int32)).toNatClampNeg) _ h2) ?_
  exact lR_iceq hC 475 1483 d_law_475 (by decide) rfl (next _ _ h3)
set_option maxRecDepth 100000 in
set_option maxHeartbeats 4000000 in
theorem law_10 (hC : lCx p e s m below meth c b L xs G) (hL : L ≤ 3584) {i : Nat} (hi : i + 7 ≤ L) {μ ν : xM} (hR : xRel μ ν) (next : ∀ μ2 ν2 : xM, xRel μ2 ν2 → lR p e s m below meth c b G 1483 [(0, .ref b), (1, .ref (xa G 81)), (2, .ref (xa G 85)), (3, .int (nI i))] [] (μ2, ν2)) : lR p e s m below meth c b G 480 [(0, .ref b), (1, .ref (xa G 81)), (2, .ref (xa G 85)), (3, .int (nI i))] [] (μ, ν) := by
  obtain ⟨r, μ2, ν2, h1, h2, h3⟩ := st_takes hR (xs (nI i + (1 : Int32)).toNatClampNeg)
  refine lR_aln hC 480 1 d_law_480 rfl rfl ?_
  refine lR_aln hC 481 0 d_law_481 rfl rfl ?_
  refine lR_iln hC 482 3 d_law_482 rfl rfl ?_
  refine lR_ic hC 483 (1 : Int32) d_law_483 (by decide) ?_
  refine lR_iadd hC 484 d_law_484 ?_
  refine lR_sld hC 485 (lidx1 hi hL) d_law_485 ?_
  refine lR_call hC 486 lcv_H_takes llaw_57 ⟨Nat.le_of_ble_eq_true rfl, Nat.le_of_ble_eq_true rfl⟩ xcf6 rfl 81 (by decide) rfl [.int (xs (nI i + (1 : Int32)).toNatClampNeg)] rfl rfl (Nat.le_of_ble_eq_true rfl) d_law_486 (r := some (.int r)) (S2 := (μ2, ν)) (kH_takes G ν μ (xs (nI i + (1 : Int32)).toNatClampNeg) _ h1) ?_
  refine lR_aln hC 489 2 d_law_489 rfl rfl ?_
  refine lR_aln hC 490 0 d_law_490 rfl rfl ?_
  refine lR_iln hC 491 3 d_law_491 rfl rfl ?_
  refine lR_ic hC 492 (1 : Int32) d_law_492 (by decide) ?_
  refine lR_iadd hC 493 d_law_493 ?_
  refine lR_sld hC 494 (lidx1 hi hL) d_law_494 ?_
  refine lR_call hC 495 lcv_M_takes llaw_60 ⟨Nat.le_of_ble_eq_true rfl, Nat.le_of_ble_eq_true rfl⟩ xcf7 rfl 85 (by decide) rfl [.int (xs (nI i + (1 : Int32)).toNatClampNeg)] rfl rfl (Nat.le_of_ble_eq_true rfl) d_law_495 (r := some (.int r)) (S2 := (μ2, ν2)) (kM_takes G μ2 ν (xs (nI i + (1 : Int32)).toNatClampNeg) _ h2) ?_
  exact lR_iceq hC 498 1483 d_law_498 (by decide) rfl (next _ _ h3)
set_option maxRecDepth 100000 in
set_option maxHeartbeats 4000000 in
theorem law_11 (hC : lCx p e s m below meth c b L xs G) (hL : L ≤ 3584) {i : Nat} (hi : i + 7 ≤ L) {μ ν : xM} (hR : xRel μ ν) (next : ∀ μ2 ν2 : xM, xRel μ2 ν2 → lR p e s m below meth c b G 1483 [(0, .ref b), (1, .ref (xa G 81)), (2, .ref (xa G 85)), (3, .int (nI i))] [] (μ2, ν2)) : lR p e s m below meth c b G 503 [(0, .ref b), (1, .ref (xa G 81)), (2, .ref (xa G 85)), (3, .int (nI i))] [] (μ, ν) := by
  obtain ⟨r, μ2, ν2, h1, h2, h3⟩ := st_dries hR (xs (nI i + (1 : Int32)).toNatClampNeg) (xs (nI i + (2 : Int32)).toNatClampNeg)
  refine lR_aln hC 503 1 d_law_503 rfl rfl ?_
  refine lR_aln hC 504 0 d_law_504 rfl rfl ?_
  refine lR_iln hC 505 3 d_law_505 rfl rfl ?_
  refine lR_ic hC 506 (1 : Int32) d_law_506 (by decide) ?_
  refine lR_iadd hC 507 d_law_507 ?_
  refine lR_sld hC 508 (lidx1 hi hL) d_law_508 ?_
  refine lR_aln hC 509 0 d_law_509 rfl rfl ?_
  refine lR_iln hC 510 3 d_law_510 rfl rfl ?_
  refine lR_ic hC 511 (2 : Int32) d_law_511 (by decide) ?_
  refine lR_iadd hC 512 d_law_512 ?_
  refine lR_sld hC 513 (lidx2 hi hL) d_law_513 ?_
  refine lR_call hC 514 lcv_H_dries llaw_61 ⟨Nat.le_of_ble_eq_true rfl, Nat.le_of_ble_eq_true rfl⟩ xcf6 rfl 81 (by decide) rfl [.int (xs (nI i + (1 : Int32)).toNatClampNeg), .int (xs (nI i + (2 : Int32)).toNatClampNeg)] rfl rfl (Nat.le_of_ble_eq_true rfl) d_law_514 (r := some (.int r)) (S2 := (μ2, ν)) (kH_dries G ν μ (xs (nI i + (1 : Int32)).toNatClampNeg) (xs (nI i + (2 : Int32)).toNatClampNeg) _ h1) ?_
  refine lR_aln hC 517 2 d_law_517 rfl rfl ?_
  refine lR_aln hC 518 0 d_law_518 rfl rfl ?_
  refine lR_iln hC 519 3 d_law_519 rfl rfl ?_
  refine lR_ic hC 520 (1 : Int32) d_law_520 (by decide) ?_
  refine lR_iadd hC 521 d_law_521 ?_
  refine lR_sld hC 522 (lidx1 hi hL) d_law_522 ?_
  refine lR_aln hC 523 0 d_law_523 rfl rfl ?_
  refine lR_iln hC 524 3 d_law_524 rfl rfl ?_
  refine lR_ic hC 525 (2 : Int32) d_law_525 (by decide) ?_
  refine lR_iadd hC 526 d_law_526 ?_
  refine lR_sld hC 527 (lidx2 hi hL) d_law_527 ?_
  refine lR_call hC 528 lcv_M_dries llaw_64 ⟨Nat.le_of_ble_eq_true rfl, Nat.le_of_ble_eq_true rfl⟩ xcf7 rfl 85 (by decide) rfl [.int (xs (nI i + (1 : Int32)).toNatClampNeg), .int (xs (nI i + (2 : Int32)).toNatClampNeg)] rfl rfl (Nat.le_of_ble_eq_true rfl) d_law_528 (r := some (.int r)) (S2 := (μ2, ν2)) (kM_dries G μ2 ν (xs (nI i + (1 : Int32)).toNatClampNeg) (xs (nI i + (2 : Int32)).toNatClampNeg) _ h2) ?_
  exact lR_iceq hC 531 1483 d_law_531 (by decide) rfl (next _ _ h3)
set_option maxRecDepth 100000 in
set_option maxHeartbeats 4000000 in
theorem law_12 (hC : lCx p e s m below meth c b L xs G) (hL : L ≤ 3584) {i : Nat} (hi : i + 7 ≤ L) {μ ν : xM} (hR : xRel μ ν) (next : ∀ μ2 ν2 : xM, xRel μ2 ν2 → lR p e s m below meth c b G 1483 [(0, .ref b), (1, .ref (xa G 81)), (2, .ref (xa G 85)), (3, .int (nI i))] [] (μ2, ν2)) : lR p e s m below meth c b G 536 [(0, .ref b), (1, .ref (xa G 81)), (2, .ref (xa G 85)), (3, .int (nI i))] [] (μ, ν) := by
  obtain ⟨r, μ2, ν2, h1, h2, h3⟩ := st_undo hR 
  refine lR_aln hC 536 1 d_law_536 rfl rfl ?_
  refine lR_call hC 537 lcv_H_undo llaw_65 ⟨Nat.le_of_ble_eq_true rfl, Nat.le_of_ble_eq_true rfl⟩ xcf6 rfl 81 (by decide) rfl [] rfl rfl (Nat.le_of_ble_eq_true rfl) d_law_537 (r := some (.int r)) (S2 := (μ2, ν)) (kH_undo G ν μ  _ h1) ?_
  refine lR_aln hC 540 2 d_law_540 rfl rfl ?_
  refine lR_call hC 541 lcv_M_undo llaw_68 ⟨Nat.le_of_ble_eq_true rfl, Nat.le_of_ble_eq_true rfl⟩ xcf7 rfl 85 (by decide) rfl [] rfl rfl (Nat.le_of_ble_eq_true rfl) d_law_541 (r := some (.int r)) (S2 := (μ2, ν2)) (kM_undo G μ2 ν  _ h2) ?_
  exact lR_iceq hC 544 1483 d_law_544 (by decide) rfl (next _ _ h3)
set_option maxRecDepth 100000 in
set_option maxHeartbeats 4000000 in
theorem law_13 (hC : lCx p e s m below meth c b L xs G) (hL : L ≤ 3584) {i : Nat} (hi : i + 7 ≤ L) {μ ν : xM} (hR : xRel μ ν) (next : ∀ μ2 ν2 : xM, xRel μ2 ν2 → lR p e s m below meth c b G 1483 [(0, .ref b), (1, .ref (xa G 81)), (2, .ref (xa G 85)), (3, .int (nI i))] [] (μ2, ν2)) : lR p e s m below meth c b G 549 [(0, .ref b), (1, .ref (xa G 81)), (2, .ref (xa G 85)), (3, .int (nI i))] [] (μ, ν) := by
  obtain ⟨r, μ2, ν2, h1, h2, h3⟩ := st_of hR (xs (nI i + (1 : Int32)).toNatClampNeg) (xs (nI i + (2 : Int32)).toNatClampNeg)
  refine lR_aln hC 549 1 d_law_549 rfl rfl ?_
  refine lR_aln hC 550 0 d_law_550 rfl rfl ?_
  refine lR_iln hC 551 3 d_law_551 rfl rfl ?_
  refine lR_ic hC 552 (1 : Int32) d_law_552 (by decide) ?_
  refine lR_iadd hC 553 d_law_553 ?_
  refine lR_sld hC 554 (lidx1 hi hL) d_law_554 ?_
  refine lR_aln hC 555 0 d_law_555 rfl rfl ?_
  refine lR_iln hC 556 3 d_law_556 rfl rfl ?_
  refine lR_ic hC 557 (2 : Int32) d_law_557 (by decide) ?_
  refine lR_iadd hC 558 d_law_558 ?_
  refine lR_sld hC 559 (lidx2 hi hL) d_law_559 ?_
  refine lR_call hC 560 lcv_H_of llaw_69 ⟨Nat.le_of_ble_eq_true rfl, Nat.le_of_ble_eq_true rfl⟩ xcf6 rfl 81 (by decide) rfl [.int (xs (nI i + (1 : Int32)).toNatClampNeg), .int (xs (nI i + (2 : Int32)).toNatClampNeg)] rfl rfl (Nat.le_of_ble_eq_true rfl) d_law_560 (r := some (.int r)) (S2 := (μ2, ν)) (kH_of G ν μ (xs (nI i + (1 : Int32)).toNatClampNeg) (xs (nI i + (2 : Int32)).toNatClampNeg) _ h1) ?_
  refine lR_aln hC 563 2 d_law_563 rfl rfl ?_
  refine lR_aln hC 564 0 d_law_564 rfl rfl ?_
  refine lR_iln hC 565 3 d_law_565 rfl rfl ?_
  refine lR_ic hC 566 (1 : Int32) d_law_566 (by decide) ?_
  refine lR_iadd hC 567 d_law_567 ?_
  refine lR_sld hC 568 (lidx1 hi hL) d_law_568 ?_
  refine lR_aln hC 569 0 d_law_569 rfl rfl ?_
  refine lR_iln hC 570 3 d_law_570 rfl rfl ?_
  refine lR_ic hC 571 (2 : Int32) d_law_571 (by decide) ?_
  refine lR_iadd hC 572 d_law_572 ?_
  refine lR_sld hC 573 (lidx2 hi hL) d_law_573 ?_
  refine lR_call hC 574 lcv_M_of llaw_72 ⟨Nat.le_of_ble_eq_true rfl, Nat.le_of_ble_eq_true rfl⟩ xcf7 rfl 85 (by decide) rfl [.int (xs (nI i + (1 : Int32)).toNatClampNeg), .int (xs (nI i + (2 : Int32)).toNatClampNeg)] rfl rfl (Nat.le_of_ble_eq_true rfl) d_law_574 (r := some (.int r)) (S2 := (μ2, ν2)) (kM_of G μ2 ν (xs (nI i + (1 : Int32)).toNatClampNeg) (xs (nI i + (2 : Int32)).toNatClampNeg) _ h2) ?_
  exact lR_iceq hC 577 1483 d_law_577 (by decide) rfl (next _ _ h3)
set_option maxRecDepth 100000 in
set_option maxHeartbeats 4000000 in
theorem law_14 (hC : lCx p e s m below meth c b L xs G) (hL : L ≤ 3584) {i : Nat} (hi : i + 7 ≤ L) {μ ν : xM} (hR : xRel μ ν) (next : ∀ μ2 ν2 : xM, xRel μ2 ν2 → lR p e s m below meth c b G 1483 [(0, .ref b), (1, .ref (xa G 81)), (2, .ref (xa G 85)), (3, .int (nI i))] [] (μ2, ν2)) : lR p e s m below meth c b G 582 [(0, .ref b), (1, .ref (xa G 81)), (2, .ref (xa G 85)), (3, .int (nI i))] [] (μ, ν) := by
  obtain ⟨r, μ2, ν2, h1, h2, h3⟩ := st_about hR (xs (nI i + (1 : Int32)).toNatClampNeg) (xs (nI i + (2 : Int32)).toNatClampNeg)
  refine lR_aln hC 582 1 d_law_582 rfl rfl ?_
  refine lR_aln hC 583 0 d_law_583 rfl rfl ?_
  refine lR_iln hC 584 3 d_law_584 rfl rfl ?_
  refine lR_ic hC 585 (1 : Int32) d_law_585 (by decide) ?_
  refine lR_iadd hC 586 d_law_586 ?_
  refine lR_sld hC 587 (lidx1 hi hL) d_law_587 ?_
  refine lR_aln hC 588 0 d_law_588 rfl rfl ?_
  refine lR_iln hC 589 3 d_law_589 rfl rfl ?_
  refine lR_ic hC 590 (2 : Int32) d_law_590 (by decide) ?_
  refine lR_iadd hC 591 d_law_591 ?_
  refine lR_sld hC 592 (lidx2 hi hL) d_law_592 ?_
  refine lR_call hC 593 lcv_H_about llaw_73 ⟨Nat.le_of_ble_eq_true rfl, Nat.le_of_ble_eq_true rfl⟩ xcf6 rfl 81 (by decide) rfl [.int (xs (nI i + (1 : Int32)).toNatClampNeg), .int (xs (nI i + (2 : Int32)).toNatClampNeg)] rfl rfl (Nat.le_of_ble_eq_true rfl) d_law_593 (r := some (.int r)) (S2 := (μ2, ν)) (kH_about G ν μ (xs (nI i + (1 : Int32)).toNatClampNeg) (xs (nI i + (2 : Int32)).toNatClampNeg) _ h1) ?_
  refine lR_aln hC 596 2 d_law_596 rfl rfl ?_
  refine lR_aln hC 597 0 d_law_597 rfl rfl ?_
  refine lR_iln hC 598 3 d_law_598 rfl rfl ?_
  refine lR_ic hC 599 (1 : Int32) d_law_599 (by decide) ?_
  refine lR_iadd hC 600 d_law_600 ?_
  refine lR_sld hC 601 (lidx1 hi hL) d_law_601 ?_
  refine lR_aln hC 602 0 d_law_602 rfl rfl ?_
  refine lR_iln hC 603 3 d_law_603 rfl rfl ?_
  refine lR_ic hC 604 (2 : Int32) d_law_604 (by decide) ?_
  refine lR_iadd hC 605 d_law_605 ?_
  refine lR_sld hC 606 (lidx2 hi hL) d_law_606 ?_
  refine lR_call hC 607 lcv_M_about llaw_76 ⟨Nat.le_of_ble_eq_true rfl, Nat.le_of_ble_eq_true rfl⟩ xcf7 rfl 85 (by decide) rfl [.int (xs (nI i + (1 : Int32)).toNatClampNeg), .int (xs (nI i + (2 : Int32)).toNatClampNeg)] rfl rfl (Nat.le_of_ble_eq_true rfl) d_law_607 (r := some (.int r)) (S2 := (μ2, ν2)) (kM_about G μ2 ν (xs (nI i + (1 : Int32)).toNatClampNeg) (xs (nI i + (2 : Int32)).toNatClampNeg) _ h2) ?_
  exact lR_iceq hC 610 1483 d_law_610 (by decide) rfl (next _ _ h3)
set_option maxRecDepth 100000 in
set_option maxHeartbeats 4000000 in
theorem law_15 (hC : lCx p e s m below meth c b L xs G) (hL : L ≤ 3584) {i : Nat} (hi : i + 7 ≤ L) {μ ν : xM} (hR : xRel μ ν) (next : ∀ μ2 ν2 : xM, xRel μ2 ν2 → lR p e s m below meth c b G 1483 [(0, .ref b), (1, .ref (xa G 81)), (2, .ref (xa G 85)), (3, .int (nI i))] [] (μ2, ν2)) : lR p e s m below meth c b G 615 [(0, .ref b), (1, .ref (xa G 81)), (2, .ref (xa G 85)), (3, .int (nI i))] [] (μ, ν) := by
  obtain ⟨r, μ2, ν2, h1, h2, h3⟩ := st_sounds hR (xs (nI i + (1 : Int32)).toNatClampNeg) (xs (nI i + (2 : Int32)).toNatClampNeg)
  refine lR_aln hC 615 1 d_law_615 rfl rfl ?_
  refine lR_aln hC 616 0 d_law_616 rfl rfl ?_
  refine lR_iln hC 617 3 d_law_617 rfl rfl ?_
  refine lR_ic hC 618 (1 : Int32) d_law_618 (by decide) ?_
  refine lR_iadd hC 619 d_law_619 ?_
  refine lR_sld hC 620 (lidx1 hi hL) d_law_620 ?_
  refine lR_aln hC 621 0 d_law_621 rfl rfl ?_
  refine lR_iln hC 622 3 d_law_622 rfl rfl ?_
  refine lR_ic hC 623 (2 : Int32) d_law_623 (by decide) ?_
  refine lR_iadd hC 624 d_law_624 ?_
  refine lR_sld hC 625 (lidx2 hi hL) d_law_625 ?_
  refine lR_call hC 626 lcv_H_sounds llaw_77 ⟨Nat.le_of_ble_eq_true rfl, Nat.le_of_ble_eq_true rfl⟩ xcf6 rfl 81 (by decide) rfl [.int (xs (nI i + (1 : Int32)).toNatClampNeg), .int (xs (nI i + (2 : Int32)).toNatClampNeg)] rfl rfl (Nat.le_of_ble_eq_true rfl) d_law_626 (r := some (.int r)) (S2 := (μ2, ν)) (kH_sounds G ν μ (xs (nI i + (1 : Int32)).toNatClampNeg) (xs (nI i + (2 : Int32)).toNatClampNeg) _ h1) ?_
  refine lR_aln hC 629 2 d_law_629 rfl rfl ?_
  refine lR_aln hC 630 0 d_law_630 rfl rfl ?_
  refine lR_iln hC 631 3 d_law_631 rfl rfl ?_
  refine lR_ic hC 632 (1 : Int32) d_law_632 (by decide) ?_
  refine lR_iadd hC 633 d_law_633 ?_
  refine lR_sld hC 634 (lidx1 hi hL) d_law_634 ?_
  refine lR_aln hC 635 0 d_law_635 rfl rfl ?_
  refine lR_iln hC 636 3 d_law_636 rfl rfl ?_
  refine lR_ic hC 637 (2 : Int32) d_law_637 (by decide) ?_
  refine lR_iadd hC 638 d_law_638 ?_
  refine lR_sld hC 639 (lidx2 hi hL) d_law_639 ?_
  refine lR_call hC 640 lcv_M_sounds llaw_80 ⟨Nat.le_of_ble_eq_true rfl, Nat.le_of_ble_eq_true rfl⟩ xcf7 rfl 85 (by decide) rfl [.int (xs (nI i + (1 : Int32)).toNatClampNeg), .int (xs (nI i + (2 : Int32)).toNatClampNeg)] rfl rfl (Nat.le_of_ble_eq_true rfl) d_law_640 (r := some (.int r)) (S2 := (μ2, ν2)) (kM_sounds G μ2 ν (xs (nI i + (1 : Int32)).toNatClampNeg) (xs (nI i + (2 : Int32)).toNatClampNeg) _ h2) ?_
  exact lR_iceq hC 643 1483 d_law_643 (by decide) rfl (next _ _ h3)
set_option maxRecDepth 100000 in
set_option maxHeartbeats 4000000 in
theorem law_16 (hC : lCx p e s m below meth c b L xs G) (hL : L ≤ 3584) {i : Nat} (hi : i + 7 ≤ L) {μ ν : xM} (hR : xRel μ ν) (next : ∀ μ2 ν2 : xM, xRel μ2 ν2 → lR p e s m below meth c b G 1483 [(0, .ref b), (1, .ref (xa G 81)), (2, .ref (xa G 85)), (3, .int (nI i))] [] (μ2, ν2)) : lR p e s m below meth c b G 648 [(0, .ref b), (1, .ref (xa G 81)), (2, .ref (xa G 85)), (3, .int (nI i))] [] (μ, ν) := by
  obtain ⟨r, μ2, ν2, h1, h2, h3⟩ := st_plays hR (xs (nI i + (1 : Int32)).toNatClampNeg) (xs (nI i + (2 : Int32)).toNatClampNeg)
  refine lR_aln hC 648 1 d_law_648 rfl rfl ?_
  refine lR_aln hC 649 0 d_law_649 rfl rfl ?_
  refine lR_iln hC 650 3 d_law_650 rfl rfl ?_
  refine lR_ic hC 651 (1 : Int32) d_law_651 (by decide) ?_
  refine lR_iadd hC 652 d_law_652 ?_
  refine lR_sld hC 653 (lidx1 hi hL) d_law_653 ?_
  refine lR_aln hC 654 0 d_law_654 rfl rfl ?_
  refine lR_iln hC 655 3 d_law_655 rfl rfl ?_
  refine lR_ic hC 656 (2 : Int32) d_law_656 (by decide) ?_
  refine lR_iadd hC 657 d_law_657 ?_
  refine lR_sld hC 658 (lidx2 hi hL) d_law_658 ?_
  refine lR_call hC 659 lcv_H_plays llaw_81 ⟨Nat.le_of_ble_eq_true rfl, Nat.le_of_ble_eq_true rfl⟩ xcf6 rfl 81 (by decide) rfl [.int (xs (nI i + (1 : Int32)).toNatClampNeg), .int (xs (nI i + (2 : Int32)).toNatClampNeg)] rfl rfl (Nat.le_of_ble_eq_true rfl) d_law_659 (r := some (.int r)) (S2 := (μ2, ν)) (kH_plays G ν μ (xs (nI i + (1 : Int32)).toNatClampNeg) (xs (nI i + (2 : Int32)).toNatClampNeg) _ h1) ?_
  refine lR_aln hC 662 2 d_law_662 rfl rfl ?_
  refine lR_aln hC 663 0 d_law_663 rfl rfl ?_
  refine lR_iln hC 664 3 d_law_664 rfl rfl ?_
  refine lR_ic hC 665 (1 : Int32) d_law_665 (by decide) ?_
  refine lR_iadd hC 666 d_law_666 ?_
  refine lR_sld hC 667 (lidx1 hi hL) d_law_667 ?_
  refine lR_aln hC 668 0 d_law_668 rfl rfl ?_
  refine lR_iln hC 669 3 d_law_669 rfl rfl ?_
  refine lR_ic hC 670 (2 : Int32) d_law_670 (by decide) ?_
  refine lR_iadd hC 671 d_law_671 ?_
  refine lR_sld hC 672 (lidx2 hi hL) d_law_672 ?_
  refine lR_call hC 673 lcv_M_plays llaw_84 ⟨Nat.le_of_ble_eq_true rfl, Nat.le_of_ble_eq_true rfl⟩ xcf7 rfl 85 (by decide) rfl [.int (xs (nI i + (1 : Int32)).toNatClampNeg), .int (xs (nI i + (2 : Int32)).toNatClampNeg)] rfl rfl (Nat.le_of_ble_eq_true rfl) d_law_673 (r := some (.int r)) (S2 := (μ2, ν2)) (kM_plays G μ2 ν (xs (nI i + (1 : Int32)).toNatClampNeg) (xs (nI i + (2 : Int32)).toNatClampNeg) _ h2) ?_
  exact lR_iceq hC 676 1483 d_law_676 (by decide) rfl (next _ _ h3)
set_option maxRecDepth 100000 in
set_option maxHeartbeats 4000000 in
theorem law_17 (hC : lCx p e s m below meth c b L xs G) (hL : L ≤ 3584) {i : Nat} (hi : i + 7 ≤ L) {μ ν : xM} (hR : xRel μ ν) (next : ∀ μ2 ν2 : xM, xRel μ2 ν2 → lR p e s m below meth c b G 1483 [(0, .ref b), (1, .ref (xa G 81)), (2, .ref (xa G 85)), (3, .int (nI i))] [] (μ2, ν2)) : lR p e s m below meth c b G 681 [(0, .ref b), (1, .ref (xa G 81)), (2, .ref (xa G 85)), (3, .int (nI i))] [] (μ, ν) := by
  obtain ⟨r, μ2, ν2, h1, h2, h3⟩ := st_then hR (xs (nI i + (1 : Int32)).toNatClampNeg) (xs (nI i + (2 : Int32)).toNatClampNeg) (xs (nI i + (3 : Int32)).toNatClampNeg)
  refine lR_aln hC 681 1 d_law_681 rfl rfl ?_
  refine lR_aln hC 682 0 d_law_682 rfl rfl ?_
  refine lR_iln hC 683 3 d_law_683 rfl rfl ?_
  refine lR_ic hC 684 (1 : Int32) d_law_684 (by decide) ?_
  refine lR_iadd hC 685 d_law_685 ?_
  refine lR_sld hC 686 (lidx1 hi hL) d_law_686 ?_
  refine lR_aln hC 687 0 d_law_687 rfl rfl ?_
  refine lR_iln hC 688 3 d_law_688 rfl rfl ?_
  refine lR_ic hC 689 (2 : Int32) d_law_689 (by decide) ?_
  refine lR_iadd hC 690 d_law_690 ?_
  refine lR_sld hC 691 (lidx2 hi hL) d_law_691 ?_
  refine lR_aln hC 692 0 d_law_692 rfl rfl ?_
  refine lR_iln hC 693 3 d_law_693 rfl rfl ?_
  refine lR_ic hC 694 (3 : Int32) d_law_694 (by decide) ?_
  refine lR_iadd hC 695 d_law_695 ?_
  refine lR_sld hC 696 (lidx3 hi hL) d_law_696 ?_
  refine lR_call hC 697 lcv_H_then llaw_85 ⟨Nat.le_of_ble_eq_true rfl, Nat.le_of_ble_eq_true rfl⟩ xcf6 rfl 81 (by decide) rfl [.int (xs (nI i + (1 : Int32)).toNatClampNeg), .int (xs (nI i + (2 : Int32)).toNatClampNeg), .int (xs (nI i + (3 : Int32)).toNatClampNeg)] rfl rfl (Nat.le_of_ble_eq_true rfl) d_law_697 (r := some (.int r)) (S2 := (μ2, ν)) (kH_then G ν μ (xs (nI i + (1 : Int32)).toNatClampNeg) (xs (nI i + (2 : Int32)).toNatClampNeg) (xs (nI i + (3 : Int32)).toNatClampNeg) _ h1) ?_
  refine lR_aln hC 700 2 d_law_700 rfl rfl ?_
  refine lR_aln hC 701 0 d_law_701 rfl rfl ?_
  refine lR_iln hC 702 3 d_law_702 rfl rfl ?_
  refine lR_ic hC 703 (1 : Int32) d_law_703 (by decide) ?_
  refine lR_iadd hC 704 d_law_704 ?_
  refine lR_sld hC 705 (lidx1 hi hL) d_law_705 ?_
  refine lR_aln hC 706 0 d_law_706 rfl rfl ?_
  refine lR_iln hC 707 3 d_law_707 rfl rfl ?_
  refine lR_ic hC 708 (2 : Int32) d_law_708 (by decide) ?_
  refine lR_iadd hC 709 d_law_709 ?_
  refine lR_sld hC 710 (lidx2 hi hL) d_law_710 ?_
  refine lR_aln hC 711 0 d_law_711 rfl rfl ?_
  refine lR_iln hC 712 3 d_law_712 rfl rfl ?_
  refine lR_ic hC 713 (3 : Int32) d_law_713 (by decide) ?_
  refine lR_iadd hC 714 d_law_714 ?_
  refine lR_sld hC 715 (lidx3 hi hL) d_law_715 ?_
  refine lR_call hC 716 lcv_M_then llaw_89 ⟨Nat.le_of_ble_eq_true rfl, Nat.le_of_ble_eq_true rfl⟩ xcf7 rfl 85 (by decide) rfl [.int (xs (nI i + (1 : Int32)).toNatClampNeg), .int (xs (nI i + (2 : Int32)).toNatClampNeg), .int (xs (nI i + (3 : Int32)).toNatClampNeg)] rfl rfl (Nat.le_of_ble_eq_true rfl) d_law_716 (r := some (.int r)) (S2 := (μ2, ν2)) (kM_then G μ2 ν (xs (nI i + (1 : Int32)).toNatClampNeg) (xs (nI i + (2 : Int32)).toNatClampNeg) (xs (nI i + (3 : Int32)).toNatClampNeg) _ h2) ?_
  exact lR_iceq hC 719 1483 d_law_719 (by decide) rfl (next _ _ h3)
set_option maxRecDepth 100000 in
set_option maxHeartbeats 4000000 in
theorem law_18 (hC : lCx p e s m below meth c b L xs G) (hL : L ≤ 3584) {i : Nat} (hi : i + 7 ≤ L) {μ ν : xM} (hR : xRel μ ν) (next : ∀ μ2 ν2 : xM, xRel μ2 ν2 → lR p e s m below meth c b G 1483 [(0, .ref b), (1, .ref (xa G 81)), (2, .ref (xa G 85)), (3, .int (nI i))] [] (μ2, ν2)) : lR p e s m below meth c b G 724 [(0, .ref b), (1, .ref (xa G 81)), (2, .ref (xa G 85)), (3, .int (nI i))] [] (μ, ν) := by
  obtain ⟨r, μ2, ν2, h1, h2, h3⟩ := st_waits hR (xs (nI i + (1 : Int32)).toNatClampNeg) (xs (nI i + (2 : Int32)).toNatClampNeg) (xs (nI i + (3 : Int32)).toNatClampNeg)
  refine lR_aln hC 724 1 d_law_724 rfl rfl ?_
  refine lR_aln hC 725 0 d_law_725 rfl rfl ?_
  refine lR_iln hC 726 3 d_law_726 rfl rfl ?_
  refine lR_ic hC 727 (1 : Int32) d_law_727 (by decide) ?_
  refine lR_iadd hC 728 d_law_728 ?_
  refine lR_sld hC 729 (lidx1 hi hL) d_law_729 ?_
  refine lR_aln hC 730 0 d_law_730 rfl rfl ?_
  refine lR_iln hC 731 3 d_law_731 rfl rfl ?_
  refine lR_ic hC 732 (2 : Int32) d_law_732 (by decide) ?_
  refine lR_iadd hC 733 d_law_733 ?_
  refine lR_sld hC 734 (lidx2 hi hL) d_law_734 ?_
  refine lR_aln hC 735 0 d_law_735 rfl rfl ?_
  refine lR_iln hC 736 3 d_law_736 rfl rfl ?_
  refine lR_ic hC 737 (3 : Int32) d_law_737 (by decide) ?_
  refine lR_iadd hC 738 d_law_738 ?_
  refine lR_sld hC 739 (lidx3 hi hL) d_law_739 ?_
  refine lR_call hC 740 lcv_H_waits llaw_90 ⟨Nat.le_of_ble_eq_true rfl, Nat.le_of_ble_eq_true rfl⟩ xcf6 rfl 81 (by decide) rfl [.int (xs (nI i + (1 : Int32)).toNatClampNeg), .int (xs (nI i + (2 : Int32)).toNatClampNeg), .int (xs (nI i + (3 : Int32)).toNatClampNeg)] rfl rfl (Nat.le_of_ble_eq_true rfl) d_law_740 (r := some (.int r)) (S2 := (μ2, ν)) (kH_waits G ν μ (xs (nI i + (1 : Int32)).toNatClampNeg) (xs (nI i + (2 : Int32)).toNatClampNeg) (xs (nI i + (3 : Int32)).toNatClampNeg) _ h1) ?_
  refine lR_aln hC 743 2 d_law_743 rfl rfl ?_
  refine lR_aln hC 744 0 d_law_744 rfl rfl ?_
  refine lR_iln hC 745 3 d_law_745 rfl rfl ?_
  refine lR_ic hC 746 (1 : Int32) d_law_746 (by decide) ?_
  refine lR_iadd hC 747 d_law_747 ?_
  refine lR_sld hC 748 (lidx1 hi hL) d_law_748 ?_
  refine lR_aln hC 749 0 d_law_749 rfl rfl ?_
  refine lR_iln hC 750 3 d_law_750 rfl rfl ?_
  refine lR_ic hC 751 (2 : Int32) d_law_751 (by decide) ?_
  refine lR_iadd hC 752 d_law_752 ?_
  refine lR_sld hC 753 (lidx2 hi hL) d_law_753 ?_
  refine lR_aln hC 754 0 d_law_754 rfl rfl ?_
  refine lR_iln hC 755 3 d_law_755 rfl rfl ?_
  refine lR_ic hC 756 (3 : Int32) d_law_756 (by decide) ?_
  refine lR_iadd hC 757 d_law_757 ?_
  refine lR_sld hC 758 (lidx3 hi hL) d_law_758 ?_
  refine lR_call hC 759 lcv_M_waits llaw_93 ⟨Nat.le_of_ble_eq_true rfl, Nat.le_of_ble_eq_true rfl⟩ xcf7 rfl 85 (by decide) rfl [.int (xs (nI i + (1 : Int32)).toNatClampNeg), .int (xs (nI i + (2 : Int32)).toNatClampNeg), .int (xs (nI i + (3 : Int32)).toNatClampNeg)] rfl rfl (Nat.le_of_ble_eq_true rfl) d_law_759 (r := some (.int r)) (S2 := (μ2, ν2)) (kM_waits G μ2 ν (xs (nI i + (1 : Int32)).toNatClampNeg) (xs (nI i + (2 : Int32)).toNatClampNeg) (xs (nI i + (3 : Int32)).toNatClampNeg) _ h2) ?_
  exact lR_iceq hC 762 1483 d_law_762 (by decide) rfl (next _ _ h3)
set_option maxRecDepth 100000 in
set_option maxHeartbeats 4000000 in
theorem law_19 (hC : lCx p e s m below meth c b L xs G) (hL : L ≤ 3584) {i : Nat} (hi : i + 7 ≤ L) {μ ν : xM} (hR : xRel μ ν) (next : ∀ μ2 ν2 : xM, xRel μ2 ν2 → lR p e s m below meth c b G 1483 [(0, .ref b), (1, .ref (xa G 81)), (2, .ref (xa G 85)), (3, .int (nI i))] [] (μ2, ν2)) : lR p e s m below meth c b G 767 [(0, .ref b), (1, .ref (xa G 81)), (2, .ref (xa G 85)), (3, .int (nI i))] [] (μ, ν) := by
  obtain ⟨r, μ2, ν2, h1, h2, h3⟩ := st_dry hR (xs (nI i + (1 : Int32)).toNatClampNeg) (xs (nI i + (2 : Int32)).toNatClampNeg) (xs (nI i + (3 : Int32)).toNatClampNeg)
  refine lR_aln hC 767 1 d_law_767 rfl rfl ?_
  refine lR_aln hC 768 0 d_law_768 rfl rfl ?_
  refine lR_iln hC 769 3 d_law_769 rfl rfl ?_
  refine lR_ic hC 770 (1 : Int32) d_law_770 (by decide) ?_
  refine lR_iadd hC 771 d_law_771 ?_
  refine lR_sld hC 772 (lidx1 hi hL) d_law_772 ?_
  refine lR_aln hC 773 0 d_law_773 rfl rfl ?_
  refine lR_iln hC 774 3 d_law_774 rfl rfl ?_
  refine lR_ic hC 775 (2 : Int32) d_law_775 (by decide) ?_
  refine lR_iadd hC 776 d_law_776 ?_
  refine lR_sld hC 777 (lidx2 hi hL) d_law_777 ?_
  refine lR_aln hC 778 0 d_law_778 rfl rfl ?_
  refine lR_iln hC 779 3 d_law_779 rfl rfl ?_
  refine lR_ic hC 780 (3 : Int32) d_law_780 (by decide) ?_
  refine lR_iadd hC 781 d_law_781 ?_
  refine lR_sld hC 782 (lidx3 hi hL) d_law_782 ?_
  refine lR_call hC 783 lcv_H_dry llaw_94 ⟨Nat.le_of_ble_eq_true rfl, Nat.le_of_ble_eq_true rfl⟩ xcf6 rfl 81 (by decide) rfl [.int (xs (nI i + (1 : Int32)).toNatClampNeg), .int (xs (nI i + (2 : Int32)).toNatClampNeg), .int (xs (nI i + (3 : Int32)).toNatClampNeg)] rfl rfl (Nat.le_of_ble_eq_true rfl) d_law_783 (r := some (.int r)) (S2 := (μ2, ν)) (kH_dry G ν μ (xs (nI i + (1 : Int32)).toNatClampNeg) (xs (nI i + (2 : Int32)).toNatClampNeg) (xs (nI i + (3 : Int32)).toNatClampNeg) _ h1) ?_
  refine lR_aln hC 786 2 d_law_786 rfl rfl ?_
  refine lR_aln hC 787 0 d_law_787 rfl rfl ?_
  refine lR_iln hC 788 3 d_law_788 rfl rfl ?_
  refine lR_ic hC 789 (1 : Int32) d_law_789 (by decide) ?_
  refine lR_iadd hC 790 d_law_790 ?_
  refine lR_sld hC 791 (lidx1 hi hL) d_law_791 ?_
  refine lR_aln hC 792 0 d_law_792 rfl rfl ?_
  refine lR_iln hC 793 3 d_law_793 rfl rfl ?_
  refine lR_ic hC 794 (2 : Int32) d_law_794 (by decide) ?_
  refine lR_iadd hC 795 d_law_795 ?_
  refine lR_sld hC 796 (lidx2 hi hL) d_law_796 ?_
  refine lR_aln hC 797 0 d_law_797 rfl rfl ?_
  refine lR_iln hC 798 3 d_law_798 rfl rfl ?_
  refine lR_ic hC 799 (3 : Int32) d_law_799 (by decide) ?_
  refine lR_iadd hC 800 d_law_800 ?_
  refine lR_sld hC 801 (lidx3 hi hL) d_law_801 ?_
  refine lR_call hC 802 lcv_M_dry llaw_97 ⟨Nat.le_of_ble_eq_true rfl, Nat.le_of_ble_eq_true rfl⟩ xcf7 rfl 85 (by decide) rfl [.int (xs (nI i + (1 : Int32)).toNatClampNeg), .int (xs (nI i + (2 : Int32)).toNatClampNeg), .int (xs (nI i + (3 : Int32)).toNatClampNeg)] rfl rfl (Nat.le_of_ble_eq_true rfl) d_law_802 (r := some (.int r)) (S2 := (μ2, ν2)) (kM_dry G μ2 ν (xs (nI i + (1 : Int32)).toNatClampNeg) (xs (nI i + (2 : Int32)).toNatClampNeg) (xs (nI i + (3 : Int32)).toNatClampNeg) _ h2) ?_
  exact lR_iceq hC 805 1483 d_law_805 (by decide) rfl (next _ _ h3)
set_option maxRecDepth 100000 in
set_option maxHeartbeats 4000000 in
theorem law_20 (hC : lCx p e s m below meth c b L xs G) (hL : L ≤ 3584) {i : Nat} (hi : i + 7 ≤ L) {μ ν : xM} (hR : xRel μ ν) (next : ∀ μ2 ν2 : xM, xRel μ2 ν2 → lR p e s m below meth c b G 1483 [(0, .ref b), (1, .ref (xa G 81)), (2, .ref (xa G 85)), (3, .int (nI i))] [] (μ2, ν2)) : lR p e s m below meth c b G 810 [(0, .ref b), (1, .ref (xa G 81)), (2, .ref (xa G 85)), (3, .int (nI i))] [] (μ, ν) := by
  obtain ⟨r, μ2, ν2, h1, h2, h3⟩ := st_tune hR (xs (nI i + (1 : Int32)).toNatClampNeg) (xs (nI i + (2 : Int32)).toNatClampNeg) (xs (nI i + (3 : Int32)).toNatClampNeg)
  refine lR_aln hC 810 1 d_law_810 rfl rfl ?_
  refine lR_aln hC 811 0 d_law_811 rfl rfl ?_
  refine lR_iln hC 812 3 d_law_812 rfl rfl ?_
  refine lR_ic hC 813 (1 : Int32) d_law_813 (by decide) ?_
  refine lR_iadd hC 814 d_law_814 ?_
  refine lR_sld hC 815 (lidx1 hi hL) d_law_815 ?_
  refine lR_aln hC 816 0 d_law_816 rfl rfl ?_
  refine lR_iln hC 817 3 d_law_817 rfl rfl ?_
  refine lR_ic hC 818 (2 : Int32) d_law_818 (by decide) ?_
  refine lR_iadd hC 819 d_law_819 ?_
  refine lR_sld hC 820 (lidx2 hi hL) d_law_820 ?_
  refine lR_aln hC 821 0 d_law_821 rfl rfl ?_
  refine lR_iln hC 822 3 d_law_822 rfl rfl ?_
  refine lR_ic hC 823 (3 : Int32) d_law_823 (by decide) ?_
  refine lR_iadd hC 824 d_law_824 ?_
  refine lR_sld hC 825 (lidx3 hi hL) d_law_825 ?_
  refine lR_call hC 826 lcv_H_tune llaw_98 ⟨Nat.le_of_ble_eq_true rfl, Nat.le_of_ble_eq_true rfl⟩ xcf6 rfl 81 (by decide) rfl [.int (xs (nI i + (1 : Int32)).toNatClampNeg), .int (xs (nI i + (2 : Int32)).toNatClampNeg), .int (xs (nI i + (3 : Int32)).toNatClampNeg)] rfl rfl (Nat.le_of_ble_eq_true rfl) d_law_826 (r := some (.int r)) (S2 := (μ2, ν)) (kH_tune G ν μ (xs (nI i + (1 : Int32)).toNatClampNeg) (xs (nI i + (2 : Int32)).toNatClampNeg) (xs (nI i + (3 : Int32)).toNatClampNeg) _ h1) ?_
  refine lR_aln hC 829 2 d_law_829 rfl rfl ?_
  refine lR_aln hC 830 0 d_law_830 rfl rfl ?_
  refine lR_iln hC 831 3 d_law_831 rfl rfl ?_
  refine lR_ic hC 832 (1 : Int32) d_law_832 (by decide) ?_
  refine lR_iadd hC 833 d_law_833 ?_
  refine lR_sld hC 834 (lidx1 hi hL) d_law_834 ?_
  refine lR_aln hC 835 0 d_law_835 rfl rfl ?_
  refine lR_iln hC 836 3 d_law_836 rfl rfl ?_
  refine lR_ic hC 837 (2 : Int32) d_law_837 (by decide) ?_
  refine lR_iadd hC 838 d_law_838 ?_
  refine lR_sld hC 839 (lidx2 hi hL) d_law_839 ?_
  refine lR_aln hC 840 0 d_law_840 rfl rfl ?_
  refine lR_iln hC 841 3 d_law_841 rfl rfl ?_
  refine lR_ic hC 842 (3 : Int32) d_law_842 (by decide) ?_
  refine lR_iadd hC 843 d_law_843 ?_
  refine lR_sld hC 844 (lidx3 hi hL) d_law_844 ?_
  refine lR_call hC 845 lcv_M_tune llaw_101 ⟨Nat.le_of_ble_eq_true rfl, Nat.le_of_ble_eq_true rfl⟩ xcf7 rfl 85 (by decide) rfl [.int (xs (nI i + (1 : Int32)).toNatClampNeg), .int (xs (nI i + (2 : Int32)).toNatClampNeg), .int (xs (nI i + (3 : Int32)).toNatClampNeg)] rfl rfl (Nat.le_of_ble_eq_true rfl) d_law_845 (r := some (.int r)) (S2 := (μ2, ν2)) (kM_tune G μ2 ν (xs (nI i + (1 : Int32)).toNatClampNeg) (xs (nI i + (2 : Int32)).toNatClampNeg) (xs (nI i + (3 : Int32)).toNatClampNeg) _ h2) ?_
  exact lR_iceq hC 848 1483 d_law_848 (by decide) rfl (next _ _ h3)
set_option maxRecDepth 100000 in
set_option maxHeartbeats 4000000 in
theorem law_21 (hC : lCx p e s m below meth c b L xs G) (hL : L ≤ 3584) {i : Nat} (hi : i + 7 ≤ L) {μ ν : xM} (hR : xRel μ ν) (next : ∀ μ2 ν2 : xM, xRel μ2 ν2 → lR p e s m below meth c b G 1483 [(0, .ref b), (1, .ref (xa G 81)), (2, .ref (xa G 85)), (3, .int (nI i))] [] (μ2, ν2)) : lR p e s m below meth c b G 853 [(0, .ref b), (1, .ref (xa G 81)), (2, .ref (xa G 85)), (3, .int (nI i))] [] (μ, ν) := by
  obtain ⟨r, μ2, ν2, h1, h2, h3⟩ := st_best hR (xs (nI i + (1 : Int32)).toNatClampNeg) (xs (nI i + (2 : Int32)).toNatClampNeg)
  refine lR_aln hC 853 1 d_law_853 rfl rfl ?_
  refine lR_aln hC 854 0 d_law_854 rfl rfl ?_
  refine lR_iln hC 855 3 d_law_855 rfl rfl ?_
  refine lR_ic hC 856 (1 : Int32) d_law_856 (by decide) ?_
  refine lR_iadd hC 857 d_law_857 ?_
  refine lR_sld hC 858 (lidx1 hi hL) d_law_858 ?_
  refine lR_aln hC 859 0 d_law_859 rfl rfl ?_
  refine lR_iln hC 860 3 d_law_860 rfl rfl ?_
  refine lR_ic hC 861 (2 : Int32) d_law_861 (by decide) ?_
  refine lR_iadd hC 862 d_law_862 ?_
  refine lR_sld hC 863 (lidx2 hi hL) d_law_863 ?_
  refine lR_call hC 864 lcv_H_best llaw_102 ⟨Nat.le_of_ble_eq_true rfl, Nat.le_of_ble_eq_true rfl⟩ xcf6 rfl 81 (by decide) rfl [.int (xs (nI i + (1 : Int32)).toNatClampNeg), .int (xs (nI i + (2 : Int32)).toNatClampNeg)] rfl rfl (Nat.le_of_ble_eq_true rfl) d_law_864 (r := some (.int r)) (S2 := (μ2, ν)) (kH_best G ν μ (xs (nI i + (1 : Int32)).toNatClampNeg) (xs (nI i + (2 : Int32)).toNatClampNeg) _ h1) ?_
  refine lR_aln hC 867 2 d_law_867 rfl rfl ?_
  refine lR_aln hC 868 0 d_law_868 rfl rfl ?_
  refine lR_iln hC 869 3 d_law_869 rfl rfl ?_
  refine lR_ic hC 870 (1 : Int32) d_law_870 (by decide) ?_
  refine lR_iadd hC 871 d_law_871 ?_
  refine lR_sld hC 872 (lidx1 hi hL) d_law_872 ?_
  refine lR_aln hC 873 0 d_law_873 rfl rfl ?_
  refine lR_iln hC 874 3 d_law_874 rfl rfl ?_
  refine lR_ic hC 875 (2 : Int32) d_law_875 (by decide) ?_
  refine lR_iadd hC 876 d_law_876 ?_
  refine lR_sld hC 877 (lidx2 hi hL) d_law_877 ?_
  refine lR_call hC 878 lcv_M_best llaw_105 ⟨Nat.le_of_ble_eq_true rfl, Nat.le_of_ble_eq_true rfl⟩ xcf7 rfl 85 (by decide) rfl [.int (xs (nI i + (1 : Int32)).toNatClampNeg), .int (xs (nI i + (2 : Int32)).toNatClampNeg)] rfl rfl (Nat.le_of_ble_eq_true rfl) d_law_878 (r := some (.int r)) (S2 := (μ2, ν2)) (kM_best G μ2 ν (xs (nI i + (1 : Int32)).toNatClampNeg) (xs (nI i + (2 : Int32)).toNatClampNeg) _ h2) ?_
  exact lR_iceq hC 881 1483 d_law_881 (by decide) rfl (next _ _ h3)
set_option maxRecDepth 100000 in
set_option maxHeartbeats 4000000 in
theorem law_22 (hC : lCx p e s m below meth c b L xs G) (hL : L ≤ 3584) {i : Nat} (hi : i + 7 ≤ L) {μ ν : xM} (hR : xRel μ ν) (next : ∀ μ2 ν2 : xM, xRel μ2 ν2 → lR p e s m below meth c b G 1483 [(0, .ref b), (1, .ref (xa G 81)), (2, .ref (xa G 85)), (3, .int (nI i))] [] (μ2, ν2)) : lR p e s m below meth c b G 886 [(0, .ref b), (1, .ref (xa G 81)), (2, .ref (xa G 85)), (3, .int (nI i))] [] (μ, ν) := by
  obtain ⟨r, μ2, ν2, h1, h2, h3⟩ := st_together hR (xs (nI i + (1 : Int32)).toNatClampNeg) (xs (nI i + (2 : Int32)).toNatClampNeg)
  refine lR_aln hC 886 1 d_law_886 rfl rfl ?_
  refine lR_aln hC 887 0 d_law_887 rfl rfl ?_
  refine lR_iln hC 888 3 d_law_888 rfl rfl ?_
  refine lR_ic hC 889 (1 : Int32) d_law_889 (by decide) ?_
  refine lR_iadd hC 890 d_law_890 ?_
  refine lR_sld hC 891 (lidx1 hi hL) d_law_891 ?_
  refine lR_aln hC 892 0 d_law_892 rfl rfl ?_
  refine lR_iln hC 893 3 d_law_893 rfl rfl ?_
  refine lR_ic hC 894 (2 : Int32) d_law_894 (by decide) ?_
  refine lR_iadd hC 895 d_law_895 ?_
  refine lR_sld hC 896 (lidx2 hi hL) d_law_896 ?_
  refine lR_call hC 897 lcv_H_together llaw_106 ⟨Nat.le_of_ble_eq_true rfl, Nat.le_of_ble_eq_true rfl⟩ xcf6 rfl 81 (by decide) rfl [.int (xs (nI i + (1 : Int32)).toNatClampNeg), .int (xs (nI i + (2 : Int32)).toNatClampNeg)] rfl rfl (Nat.le_of_ble_eq_true rfl) d_law_897 (r := some (.int r)) (S2 := (μ2, ν)) (kH_together G ν μ (xs (nI i + (1 : Int32)).toNatClampNeg) (xs (nI i + (2 : Int32)).toNatClampNeg) _ h1) ?_
  refine lR_aln hC 900 2 d_law_900 rfl rfl ?_
  refine lR_aln hC 901 0 d_law_901 rfl rfl ?_
  refine lR_iln hC 902 3 d_law_902 rfl rfl ?_
  refine lR_ic hC 903 (1 : Int32) d_law_903 (by decide) ?_
  refine lR_iadd hC 904 d_law_904 ?_
  refine lR_sld hC 905 (lidx1 hi hL) d_law_905 ?_
  refine lR_aln hC 906 0 d_law_906 rfl rfl ?_
  refine lR_iln hC 907 3 d_law_907 rfl rfl ?_
  refine lR_ic hC 908 (2 : Int32) d_law_908 (by decide) ?_
  refine lR_iadd hC 909 d_law_909 ?_
  refine lR_sld hC 910 (lidx2 hi hL) d_law_910 ?_
  refine lR_call hC 911 lcv_M_together llaw_109 ⟨Nat.le_of_ble_eq_true rfl, Nat.le_of_ble_eq_true rfl⟩ xcf7 rfl 85 (by decide) rfl [.int (xs (nI i + (1 : Int32)).toNatClampNeg), .int (xs (nI i + (2 : Int32)).toNatClampNeg)] rfl rfl (Nat.le_of_ble_eq_true rfl) d_law_911 (r := some (.int r)) (S2 := (μ2, ν2)) (kM_together G μ2 ν (xs (nI i + (1 : Int32)).toNatClampNeg) (xs (nI i + (2 : Int32)).toNatClampNeg) _ h2) ?_
  exact lR_iceq hC 914 1483 d_law_914 (by decide) rfl (next _ _ h3)
set_option maxRecDepth 100000 in
set_option maxHeartbeats 4000000 in
theorem law_23 (hC : lCx p e s m below meth c b L xs G) (hL : L ≤ 3584) {i : Nat} (hi : i + 7 ≤ L) {μ ν : xM} (hR : xRel μ ν) (next : ∀ μ2 ν2 : xM, xRel μ2 ν2 → lR p e s m below meth c b G 1483 [(0, .ref b), (1, .ref (xa G 81)), (2, .ref (xa G 85)), (3, .int (nI i))] [] (μ2, ν2)) : lR p e s m below meth c b G 919 [(0, .ref b), (1, .ref (xa G 81)), (2, .ref (xa G 85)), (3, .int (nI i))] [] (μ, ν) := by
  obtain ⟨r, μ2, ν2, h1, h2, h3⟩ := st_orchestra hR 
  obtain ⟨h2, e2⟩ := h2
  rw [e2] at h3
  refine lR_aln hC 919 1 d_law_919 rfl rfl ?_
  refine lR_call hC 920 lcv_H_orchestra llaw_110 ⟨Nat.le_of_ble_eq_true rfl, Nat.le_of_ble_eq_true rfl⟩ xcf6 rfl 81 (by decide) rfl [] rfl rfl (Nat.le_of_ble_eq_true rfl) d_law_920 (r := some (.int r)) (S2 := (μ2, ν)) (kH_orchestra G ν μ  _ h1) ?_
  refine lR_aln hC 923 2 d_law_923 rfl rfl ?_
  refine lR_call hC 924 lcv_M_orchestra llaw_113 ⟨Nat.le_of_ble_eq_true rfl, Nat.le_of_ble_eq_true rfl⟩ xcf7 rfl 85 (by decide) rfl [] rfl rfl (Nat.le_of_ble_eq_true rfl) d_law_924 (r := some (.int r)) (S2 := (μ2, ν)) (kM_orchestra G μ2 ν  _ h2) ?_
  exact lR_iceq hC 927 1483 d_law_927 (by decide) rfl (next _ _ h3)
set_option maxRecDepth 100000 in
set_option maxHeartbeats 4000000 in
theorem law_24 (hC : lCx p e s m below meth c b L xs G) (hL : L ≤ 3584) {i : Nat} (hi : i + 7 ≤ L) {μ ν : xM} (hR : xRel μ ν) (next : ∀ μ2 ν2 : xM, xRel μ2 ν2 → lR p e s m below meth c b G 1483 [(0, .ref b), (1, .ref (xa G 81)), (2, .ref (xa G 85)), (3, .int (nI i))] [] (μ2, ν2)) : lR p e s m below meth c b G 932 [(0, .ref b), (1, .ref (xa G 81)), (2, .ref (xa G 85)), (3, .int (nI i))] [] (μ, ν) := by
  obtain ⟨r, μ2, ν2, h1, h2, h3⟩ := st_heard hR (xs (nI i + (1 : Int32)).toNatClampNeg) (xs (nI i + (2 : Int32)).toNatClampNeg)
  refine lR_aln hC 932 1 d_law_932 rfl rfl ?_
  refine lR_aln hC 933 0 d_law_933 rfl rfl ?_
  refine lR_iln hC 934 3 d_law_934 rfl rfl ?_
  refine lR_ic hC 935 (1 : Int32) d_law_935 (by decide) ?_
  refine lR_iadd hC 936 d_law_936 ?_
  refine lR_sld hC 937 (lidx1 hi hL) d_law_937 ?_
  refine lR_aln hC 938 0 d_law_938 rfl rfl ?_
  refine lR_iln hC 939 3 d_law_939 rfl rfl ?_
  refine lR_ic hC 940 (2 : Int32) d_law_940 (by decide) ?_
  refine lR_iadd hC 941 d_law_941 ?_
  refine lR_sld hC 942 (lidx2 hi hL) d_law_942 ?_
  refine lR_call hC 943 lcv_H_heard llaw_114 ⟨Nat.le_of_ble_eq_true rfl, Nat.le_of_ble_eq_true rfl⟩ xcf6 rfl 81 (by decide) rfl [.int (xs (nI i + (1 : Int32)).toNatClampNeg), .int (xs (nI i + (2 : Int32)).toNatClampNeg)] rfl rfl (Nat.le_of_ble_eq_true rfl) d_law_943 (r := some (.int r)) (S2 := (μ2, ν)) (kH_heard G ν μ (xs (nI i + (1 : Int32)).toNatClampNeg) (xs (nI i + (2 : Int32)).toNatClampNeg) _ h1) ?_
  refine lR_aln hC 946 2 d_law_946 rfl rfl ?_
  refine lR_aln hC 947 0 d_law_947 rfl rfl ?_
  refine lR_iln hC 948 3 d_law_948 rfl rfl ?_
  refine lR_ic hC 949 (1 : Int32) d_law_949 (by decide) ?_
  refine lR_iadd hC 950 d_law_950 ?_
  refine lR_sld hC 951 (lidx1 hi hL) d_law_951 ?_
  refine lR_aln hC 952 0 d_law_952 rfl rfl ?_
  refine lR_iln hC 953 3 d_law_953 rfl rfl ?_
  refine lR_ic hC 954 (2 : Int32) d_law_954 (by decide) ?_
  refine lR_iadd hC 955 d_law_955 ?_
  refine lR_sld hC 956 (lidx2 hi hL) d_law_956 ?_
  refine lR_call hC 957 lcv_M_heard llaw_117 ⟨Nat.le_of_ble_eq_true rfl, Nat.le_of_ble_eq_true rfl⟩ xcf7 rfl 85 (by decide) rfl [.int (xs (nI i + (1 : Int32)).toNatClampNeg), .int (xs (nI i + (2 : Int32)).toNatClampNeg)] rfl rfl (Nat.le_of_ble_eq_true rfl) d_law_957 (r := some (.int r)) (S2 := (μ2, ν2)) (kM_heard G μ2 ν (xs (nI i + (1 : Int32)).toNatClampNeg) (xs (nI i + (2 : Int32)).toNatClampNeg) _ h2) ?_
  exact lR_iceq hC 960 1483 d_law_960 (by decide) rfl (next _ _ h3)
set_option maxRecDepth 100000 in
set_option maxHeartbeats 4000000 in
theorem law_25 (hC : lCx p e s m below meth c b L xs G) (hL : L ≤ 3584) {i : Nat} (hi : i + 7 ≤ L) {μ ν : xM} (hR : xRel μ ν) (next : ∀ μ2 ν2 : xM, xRel μ2 ν2 → lR p e s m below meth c b G 1483 [(0, .ref b), (1, .ref (xa G 81)), (2, .ref (xa G 85)), (3, .int (nI i))] [] (μ2, ν2)) : lR p e s m below meth c b G 965 [(0, .ref b), (1, .ref (xa G 81)), (2, .ref (xa G 85)), (3, .int (nI i))] [] (μ, ν) := by
  obtain ⟨r, μ2, ν2, h1, h2, h3⟩ := st_whose hR 
  obtain ⟨h2, e2⟩ := h2
  rw [e2] at h3
  obtain ⟨h1, e1⟩ := h1
  rw [e1] at h3
  refine lR_aln hC 965 1 d_law_965 rfl rfl ?_
  refine lR_call hC 966 lcv_H_whose llaw_118 ⟨Nat.le_of_ble_eq_true rfl, Nat.le_of_ble_eq_true rfl⟩ xcf6 rfl 81 (by decide) rfl [] rfl rfl (Nat.le_of_ble_eq_true rfl) d_law_966 (r := some (.int r)) (S2 := (μ, ν)) (kH_whose G ν μ  _ h1) ?_
  refine lR_aln hC 969 2 d_law_969 rfl rfl ?_
  refine lR_call hC 970 lcv_M_whose llaw_121 ⟨Nat.le_of_ble_eq_true rfl, Nat.le_of_ble_eq_true rfl⟩ xcf7 rfl 85 (by decide) rfl [] rfl rfl (Nat.le_of_ble_eq_true rfl) d_law_970 (r := some (.int r)) (S2 := (μ, ν)) (kM_whose G μ ν  _ h2) ?_
  exact lR_iceq hC 973 1483 d_law_973 (by decide) rfl (next _ _ h3)
set_option maxRecDepth 100000 in
set_option maxHeartbeats 4000000 in
theorem law_26 (hC : lCx p e s m below meth c b L xs G) (hL : L ≤ 3584) {i : Nat} (hi : i + 7 ≤ L) {μ ν : xM} (hR : xRel μ ν) (next : ∀ μ2 ν2 : xM, xRel μ2 ν2 → lR p e s m below meth c b G 1483 [(0, .ref b), (1, .ref (xa G 81)), (2, .ref (xa G 85)), (3, .int (nI i))] [] (μ2, ν2)) : lR p e s m below meth c b G 978 [(0, .ref b), (1, .ref (xa G 81)), (2, .ref (xa G 85)), (3, .int (nI i))] [] (μ, ν) := by
  obtain ⟨r, μ2, ν2, h1, h2, h3⟩ := st_tells hR 
  refine lR_aln hC 978 1 d_law_978 rfl rfl ?_
  refine lR_call hC 979 lcv_H_tells llaw_122 ⟨Nat.le_of_ble_eq_true rfl, Nat.le_of_ble_eq_true rfl⟩ xcf6 rfl 81 (by decide) rfl [] rfl rfl (Nat.le_of_ble_eq_true rfl) d_law_979 (r := some (.int r)) (S2 := (μ2, ν)) (kH_tells G ν μ  _ h1) ?_
  refine lR_aln hC 982 2 d_law_982 rfl rfl ?_
  refine lR_call hC 983 lcv_M_tells llaw_125 ⟨Nat.le_of_ble_eq_true rfl, Nat.le_of_ble_eq_true rfl⟩ xcf7 rfl 85 (by decide) rfl [] rfl rfl (Nat.le_of_ble_eq_true rfl) d_law_983 (r := some (.int r)) (S2 := (μ2, ν2)) (kM_tells G μ2 ν  _ h2) ?_
  exact lR_iceq hC 986 1483 d_law_986 (by decide) rfl (next _ _ h3)
set_option maxRecDepth 100000 in
set_option maxHeartbeats 4000000 in
theorem law_27 (hC : lCx p e s m below meth c b L xs G) (hL : L ≤ 3584) {i : Nat} (hi : i + 7 ≤ L) {μ ν : xM} (hR : xRel μ ν) (next : ∀ μ2 ν2 : xM, xRel μ2 ν2 → lR p e s m below meth c b G 1483 [(0, .ref b), (1, .ref (xa G 81)), (2, .ref (xa G 85)), (3, .int (nI i))] [] (μ2, ν2)) : lR p e s m below meth c b G 991 [(0, .ref b), (1, .ref (xa G 81)), (2, .ref (xa G 85)), (3, .int (nI i))] [] (μ, ν) := by
  obtain ⟨r, μ2, ν2, h1, h2, h3⟩ := st_note hR (xs (nI i + (1 : Int32)).toNatClampNeg) (xs (nI i + (2 : Int32)).toNatClampNeg) (xs (nI i + (3 : Int32)).toNatClampNeg) (xs (nI i + (4 : Int32)).toNatClampNeg) (xs (nI i + (5 : Int32)).toNatClampNeg)
  refine lR_aln hC 991 1 d_law_991 rfl rfl ?_
  refine lR_aln hC 992 0 d_law_992 rfl rfl ?_
  refine lR_iln hC 993 3 d_law_993 rfl rfl ?_
  refine lR_ic hC 994 (1 : Int32) d_law_994 (by decide) ?_
  refine lR_iadd hC 995 d_law_995 ?_
  refine lR_sld hC 996 (lidx1 hi hL) d_law_996 ?_
  refine lR_aln hC 997 0 d_law_997 rfl rfl ?_
  refine lR_iln hC 998 3 d_law_998 rfl rfl ?_
  refine lR_ic hC 999 (2 : Int32) d_law_999 (by decide) ?_
  refine lR_iadd hC 1000 d_law_1000 ?_
  refine lR_sld hC 1001 (lidx2 hi hL) d_law_1001 ?_
  refine lR_aln hC 1002 0 d_law_1002 rfl rfl ?_
  refine lR_iln hC 1003 3 d_law_1003 rfl rfl ?_
  refine lR_ic hC 1004 (3 : Int32) d_law_1004 (by decide) ?_
  refine lR_iadd hC 1005 d_law_1005 ?_
  refine lR_sld hC 1006 (lidx3 hi hL) d_law_1006 ?_
  refine lR_aln hC 1007 0 d_law_1007 rfl rfl ?_
  refine lR_iln hC 1008 3 d_law_1008 rfl rfl ?_
  refine lR_ic hC 1009 (4 : Int32) d_law_1009 (by decide) ?_
  refine lR_iadd hC 1010 d_law_1010 ?_
  refine lR_sld hC 1011 (lidx4 hi hL) d_law_1011 ?_
  refine lR_aln hC 1012 0 d_law_1012 rfl rfl ?_
  refine lR_iln hC 1013 3 d_law_1013 rfl rfl ?_
  refine lR_ic hC 1014 (5 : Int32) d_law_1014 (by decide) ?_
  refine lR_iadd hC 1015 d_law_1015 ?_
  refine lR_sld hC 1016 (lidx5 hi hL) d_law_1016 ?_
  refine lR_call hC 1017 lcv_H_note llaw_126 ⟨Nat.le_of_ble_eq_true rfl, Nat.le_of_ble_eq_true rfl⟩ xcf6 rfl 81 (by decide) rfl [.int (xs (nI i + (1 : Int32)).toNatClampNeg), .int (xs (nI i + (2 : Int32)).toNatClampNeg), .int (xs (nI i + (3 : Int32)).toNatClampNeg), .int (xs (nI i + (4 : Int32)).toNatClampNeg), .int (xs (nI i + (5 : Int32)).toNatClampNeg)] rfl rfl (Nat.le_of_ble_eq_true rfl) d_law_1017 (r := some (.int r)) (S2 := (μ2, ν)) (kH_note G ν μ (xs (nI i + (1 : Int32)).toNatClampNeg) (xs (nI i + (2 : Int32)).toNatClampNeg) (xs (nI i + (3 : Int32)).toNatClampNeg) (xs (nI i + (4 : Int32)).toNatClampNeg) (xs (nI i + (5 : Int32)).toNatClampNeg) _ h1) ?_
  refine lR_aln hC 1020 2 d_law_1020 rfl rfl ?_
  refine lR_aln hC 1021 0 d_law_1021 rfl rfl ?_
  refine lR_iln hC 1022 3 d_law_1022 rfl rfl ?_
  refine lR_ic hC 1023 (1 : Int32) d_law_1023 (by decide) ?_
  refine lR_iadd hC 1024 d_law_1024 ?_
  refine lR_sld hC 1025 (lidx1 hi hL) d_law_1025 ?_
  refine lR_aln hC 1026 0 d_law_1026 rfl rfl ?_
  refine lR_iln hC 1027 3 d_law_1027 rfl rfl ?_
  refine lR_ic hC 1028 (2 : Int32) d_law_1028 (by decide) ?_
  refine lR_iadd hC 1029 d_law_1029 ?_
  refine lR_sld hC 1030 (lidx2 hi hL) d_law_1030 ?_
  refine lR_aln hC 1031 0 d_law_1031 rfl rfl ?_
  refine lR_iln hC 1032 3 d_law_1032 rfl rfl ?_
  refine lR_ic hC 1033 (3 : Int32) d_law_1033 (by decide) ?_
  refine lR_iadd hC 1034 d_law_1034 ?_
  refine lR_sld hC 1035 (lidx3 hi hL) d_law_1035 ?_
  refine lR_aln hC 1036 0 d_law_1036 rfl rfl ?_
  refine lR_iln hC 1037 3 d_law_1037 rfl rfl ?_
  refine lR_ic hC 1038 (4 : Int32) d_law_1038 (by decide) ?_
  refine lR_iadd hC 1039 d_law_1039 ?_
  refine lR_sld hC 1040 (lidx4 hi hL) d_law_1040 ?_
  refine lR_aln hC 1041 0 d_law_1041 rfl rfl ?_
  refine lR_iln hC 1042 3 d_law_1042 rfl rfl ?_
  refine lR_ic hC 1043 (5 : Int32) d_law_1043 (by decide) ?_
  refine lR_iadd hC 1044 d_law_1044 ?_
  refine lR_sld hC 1045 (lidx5 hi hL) d_law_1045 ?_
  refine lR_call hC 1046 lcv_M_note llaw_130 ⟨Nat.le_of_ble_eq_true rfl, Nat.le_of_ble_eq_true rfl⟩ xcf7 rfl 85 (by decide) rfl [.int (xs (nI i + (1 : Int32)).toNatClampNeg), .int (xs (nI i + (2 : Int32)).toNatClampNeg), .int (xs (nI i + (3 : Int32)).toNatClampNeg), .int (xs (nI i + (4 : Int32)).toNatClampNeg), .int (xs (nI i + (5 : Int32)).toNatClampNeg)] rfl rfl (Nat.le_of_ble_eq_true rfl) d_law_1046 (r := some (.int r)) (S2 := (μ2, ν2)) (kM_note G μ2 ν (xs (nI i + (1 : Int32)).toNatClampNeg) (xs (nI i + (2 : Int32)).toNatClampNeg) (xs (nI i + (3 : Int32)).toNatClampNeg) (xs (nI i + (4 : Int32)).toNatClampNeg) (xs (nI i + (5 : Int32)).toNatClampNeg) _ h2) ?_
  exact lR_iceq hC 1049 1483 d_law_1049 (by decide) rfl (next _ _ h3)
set_option maxRecDepth 100000 in
set_option maxHeartbeats 4000000 in
theorem law_28 (hC : lCx p e s m below meth c b L xs G) (hL : L ≤ 3584) {i : Nat} (hi : i + 7 ≤ L) {μ ν : xM} (hR : xRel μ ν) (next : ∀ μ2 ν2 : xM, xRel μ2 ν2 → lR p e s m below meth c b G 1483 [(0, .ref b), (1, .ref (xa G 81)), (2, .ref (xa G 85)), (3, .int (nI i))] [] (μ2, ν2)) : lR p e s m below meth c b G 1054 [(0, .ref b), (1, .ref (xa G 81)), (2, .ref (xa G 85)), (3, .int (nI i))] [] (μ, ν) := by
  obtain ⟨r, μ2, ν2, h1, h2, h3⟩ := st_mark hR (xs (nI i + (1 : Int32)).toNatClampNeg) (xs (nI i + (2 : Int32)).toNatClampNeg) (xs (nI i + (3 : Int32)).toNatClampNeg) (xs (nI i + (4 : Int32)).toNatClampNeg) (xs (nI i + (5 : Int32)).toNatClampNeg) (xs (nI i + (6 : Int32)).toNatClampNeg)
  refine lR_aln hC 1054 1 d_law_1054 rfl rfl ?_
  refine lR_aln hC 1055 0 d_law_1055 rfl rfl ?_
  refine lR_iln hC 1056 3 d_law_1056 rfl rfl ?_
  refine lR_ic hC 1057 (1 : Int32) d_law_1057 (by decide) ?_
  refine lR_iadd hC 1058 d_law_1058 ?_
  refine lR_sld hC 1059 (lidx1 hi hL) d_law_1059 ?_
  refine lR_aln hC 1060 0 d_law_1060 rfl rfl ?_
  refine lR_iln hC 1061 3 d_law_1061 rfl rfl ?_
  refine lR_ic hC 1062 (2 : Int32) d_law_1062 (by decide) ?_
  refine lR_iadd hC 1063 d_law_1063 ?_
  refine lR_sld hC 1064 (lidx2 hi hL) d_law_1064 ?_
  refine lR_aln hC 1065 0 d_law_1065 rfl rfl ?_
  refine lR_iln hC 1066 3 d_law_1066 rfl rfl ?_
  refine lR_ic hC 1067 (3 : Int32) d_law_1067 (by decide) ?_
  refine lR_iadd hC 1068 d_law_1068 ?_
  refine lR_sld hC 1069 (lidx3 hi hL) d_law_1069 ?_
  refine lR_aln hC 1070 0 d_law_1070 rfl rfl ?_
  refine lR_iln hC 1071 3 d_law_1071 rfl rfl ?_
  refine lR_ic hC 1072 (4 : Int32) d_law_1072 (by decide) ?_
  refine lR_iadd hC 1073 d_law_1073 ?_
  refine lR_sld hC 1074 (lidx4 hi hL) d_law_1074 ?_
  refine lR_aln hC 1075 0 d_law_1075 rfl rfl ?_
  refine lR_iln hC 1076 3 d_law_1076 rfl rfl ?_
  refine lR_ic hC 1077 (5 : Int32) d_law_1077 (by decide) ?_
  refine lR_iadd hC 1078 d_law_1078 ?_
  refine lR_sld hC 1079 (lidx5 hi hL) d_law_1079 ?_
  refine lR_aln hC 1080 0 d_law_1080 rfl rfl ?_
  refine lR_iln hC 1081 3 d_law_1081 rfl rfl ?_
  refine lR_bp hC 1082 (6 : Int32) d_law_1082 (by decide) ?_
  refine lR_iadd hC 1084 d_law_1084 ?_
  refine lR_sld hC 1085 (lidx6 hi hL) d_law_1085 ?_
  refine lR_call hC 1086 lcv_H_mark llaw_131 ⟨Nat.le_of_ble_eq_true rfl, Nat.le_of_ble_eq_true rfl⟩ xcf6 rfl 81 (by decide) rfl [.int (xs (nI i + (1 : Int32)).toNatClampNeg), .int (xs (nI i + (2 : Int32)).toNatClampNeg), .int (xs (nI i + (3 : Int32)).toNatClampNeg), .int (xs (nI i + (4 : Int32)).toNatClampNeg), .int (xs (nI i + (5 : Int32)).toNatClampNeg), .int (xs (nI i + (6 : Int32)).toNatClampNeg)] rfl rfl (Nat.le_of_ble_eq_true rfl) d_law_1086 (r := some (.int r)) (S2 := (μ2, ν)) (kH_mark G ν μ (xs (nI i + (1 : Int32)).toNatClampNeg) (xs (nI i + (2 : Int32)).toNatClampNeg) (xs (nI i + (3 : Int32)).toNatClampNeg) (xs (nI i + (4 : Int32)).toNatClampNeg) (xs (nI i + (5 : Int32)).toNatClampNeg) (xs (nI i + (6 : Int32)).toNatClampNeg) _ h1) ?_
  refine lR_aln hC 1089 2 d_law_1089 rfl rfl ?_
  refine lR_aln hC 1090 0 d_law_1090 rfl rfl ?_
  refine lR_iln hC 1091 3 d_law_1091 rfl rfl ?_
  refine lR_ic hC 1092 (1 : Int32) d_law_1092 (by decide) ?_
  refine lR_iadd hC 1093 d_law_1093 ?_
  refine lR_sld hC 1094 (lidx1 hi hL) d_law_1094 ?_
  refine lR_aln hC 1095 0 d_law_1095 rfl rfl ?_
  refine lR_iln hC 1096 3 d_law_1096 rfl rfl ?_
  refine lR_ic hC 1097 (2 : Int32) d_law_1097 (by decide) ?_
  refine lR_iadd hC 1098 d_law_1098 ?_
  refine lR_sld hC 1099 (lidx2 hi hL) d_law_1099 ?_
  refine lR_aln hC 1100 0 d_law_1100 rfl rfl ?_
  refine lR_iln hC 1101 3 d_law_1101 rfl rfl ?_
  refine lR_ic hC 1102 (3 : Int32) d_law_1102 (by decide) ?_
  refine lR_iadd hC 1103 d_law_1103 ?_
  refine lR_sld hC 1104 (lidx3 hi hL) d_law_1104 ?_
  refine lR_aln hC 1105 0 d_law_1105 rfl rfl ?_
  refine lR_iln hC 1106 3 d_law_1106 rfl rfl ?_
  refine lR_ic hC 1107 (4 : Int32) d_law_1107 (by decide) ?_
  refine lR_iadd hC 1108 d_law_1108 ?_
  refine lR_sld hC 1109 (lidx4 hi hL) d_law_1109 ?_
  refine lR_aln hC 1110 0 d_law_1110 rfl rfl ?_
  refine lR_iln hC 1111 3 d_law_1111 rfl rfl ?_
  refine lR_ic hC 1112 (5 : Int32) d_law_1112 (by decide) ?_
  refine lR_iadd hC 1113 d_law_1113 ?_
  refine lR_sld hC 1114 (lidx5 hi hL) d_law_1114 ?_
  refine lR_aln hC 1115 0 d_law_1115 rfl rfl ?_
  refine lR_iln hC 1116 3 d_law_1116 rfl rfl ?_
  refine lR_bp hC 1117 (6 : Int32) d_law_1117 (by decide) ?_
  refine lR_iadd hC 1119 d_law_1119 ?_
  refine lR_sld hC 1120 (lidx6 hi hL) d_law_1120 ?_
  refine lR_call hC 1121 lcv_M_mark llaw_135 ⟨Nat.le_of_ble_eq_true rfl, Nat.le_of_ble_eq_true rfl⟩ xcf7 rfl 85 (by decide) rfl [.int (xs (nI i + (1 : Int32)).toNatClampNeg), .int (xs (nI i + (2 : Int32)).toNatClampNeg), .int (xs (nI i + (3 : Int32)).toNatClampNeg), .int (xs (nI i + (4 : Int32)).toNatClampNeg), .int (xs (nI i + (5 : Int32)).toNatClampNeg), .int (xs (nI i + (6 : Int32)).toNatClampNeg)] rfl rfl (Nat.le_of_ble_eq_true rfl) d_law_1121 (r := some (.int r)) (S2 := (μ2, ν2)) (kM_mark G μ2 ν (xs (nI i + (1 : Int32)).toNatClampNeg) (xs (nI i + (2 : Int32)).toNatClampNeg) (xs (nI i + (3 : Int32)).toNatClampNeg) (xs (nI i + (4 : Int32)).toNatClampNeg) (xs (nI i + (5 : Int32)).toNatClampNeg) (xs (nI i + (6 : Int32)).toNatClampNeg) _ h2) ?_
  exact lR_iceq hC 1124 1483 d_law_1124 (by decide) rfl (next _ _ h3)
set_option maxRecDepth 100000 in
set_option maxHeartbeats 4000000 in
theorem law_29 (hC : lCx p e s m below meth c b L xs G) (hL : L ≤ 3584) {i : Nat} (hi : i + 7 ≤ L) {μ ν : xM} (hR : xRel μ ν) (next : ∀ μ2 ν2 : xM, xRel μ2 ν2 → lR p e s m below meth c b G 1483 [(0, .ref b), (1, .ref (xa G 81)), (2, .ref (xa G 85)), (3, .int (nI i))] [] (μ2, ν2)) : lR p e s m below meth c b G 1129 [(0, .ref b), (1, .ref (xa G 81)), (2, .ref (xa G 85)), (3, .int (nI i))] [] (μ, ν) := by
  obtain ⟨r, μ2, ν2, h1, h2, h3⟩ := st_forget hR (xs (nI i + (1 : Int32)).toNatClampNeg)
  refine lR_aln hC 1129 1 d_law_1129 rfl rfl ?_
  refine lR_aln hC 1130 0 d_law_1130 rfl rfl ?_
  refine lR_iln hC 1131 3 d_law_1131 rfl rfl ?_
  refine lR_ic hC 1132 (1 : Int32) d_law_1132 (by decide) ?_
  refine lR_iadd hC 1133 d_law_1133 ?_
  refine lR_sld hC 1134 (lidx1 hi hL) d_law_1134 ?_
  refine lR_call hC 1135 lcv_H_forget llaw_136 ⟨Nat.le_of_ble_eq_true rfl, Nat.le_of_ble_eq_true rfl⟩ xcf6 rfl 81 (by decide) rfl [.int (xs (nI i + (1 : Int32)).toNatClampNeg)] rfl rfl (Nat.le_of_ble_eq_true rfl) d_law_1135 (r := some (.int r)) (S2 := (μ2, ν)) (kH_forget G ν μ (xs (nI i + (1 : Int32)).toNatClampNeg) _ h1) ?_
  refine lR_aln hC 1138 2 d_law_1138 rfl rfl ?_
  refine lR_aln hC 1139 0 d_law_1139 rfl rfl ?_
  refine lR_iln hC 1140 3 d_law_1140 rfl rfl ?_
  refine lR_ic hC 1141 (1 : Int32) d_law_1141 (by decide) ?_
  refine lR_iadd hC 1142 d_law_1142 ?_
  refine lR_sld hC 1143 (lidx1 hi hL) d_law_1143 ?_
  refine lR_call hC 1144 lcv_M_forget llaw_139 ⟨Nat.le_of_ble_eq_true rfl, Nat.le_of_ble_eq_true rfl⟩ xcf7 rfl 85 (by decide) rfl [.int (xs (nI i + (1 : Int32)).toNatClampNeg)] rfl rfl (Nat.le_of_ble_eq_true rfl) d_law_1144 (r := some (.int r)) (S2 := (μ2, ν2)) (kM_forget G μ2 ν (xs (nI i + (1 : Int32)).toNatClampNeg) _ h2) ?_
  exact lR_iceq hC 1147 1483 d_law_1147 (by decide) rfl (next _ _ h3)
set_option maxRecDepth 100000 in
set_option maxHeartbeats 4000000 in
theorem law_30 (hC : lCx p e s m below meth c b L xs G) (hL : L ≤ 3584) {i : Nat} (hi : i + 7 ≤ L) {μ ν : xM} (hR : xRel μ ν) (next : ∀ μ2 ν2 : xM, xRel μ2 ν2 → lR p e s m below meth c b G 1483 [(0, .ref b), (1, .ref (xa G 81)), (2, .ref (xa G 85)), (3, .int (nI i))] [] (μ2, ν2)) : lR p e s m below meth c b G 1152 [(0, .ref b), (1, .ref (xa G 81)), (2, .ref (xa G 85)), (3, .int (nI i))] [] (μ, ν) := by
  obtain ⟨r, μ2, ν2, h1, h2, h3⟩ := st_is hR (xs (nI i + (1 : Int32)).toNatClampNeg)
  refine lR_aln hC 1152 1 d_law_1152 rfl rfl ?_
  refine lR_aln hC 1153 0 d_law_1153 rfl rfl ?_
  refine lR_iln hC 1154 3 d_law_1154 rfl rfl ?_
  refine lR_ic hC 1155 (1 : Int32) d_law_1155 (by decide) ?_
  refine lR_iadd hC 1156 d_law_1156 ?_
  refine lR_sld hC 1157 (lidx1 hi hL) d_law_1157 ?_
  refine lR_call hC 1158 lcv_H_is llaw_140 ⟨Nat.le_of_ble_eq_true rfl, Nat.le_of_ble_eq_true rfl⟩ xcf6 rfl 81 (by decide) rfl [.int (xs (nI i + (1 : Int32)).toNatClampNeg)] rfl rfl (Nat.le_of_ble_eq_true rfl) d_law_1158 (r := some (.int r)) (S2 := (μ2, ν)) (kH_is G ν μ (xs (nI i + (1 : Int32)).toNatClampNeg) _ h1) ?_
  refine lR_aln hC 1161 2 d_law_1161 rfl rfl ?_
  refine lR_aln hC 1162 0 d_law_1162 rfl rfl ?_
  refine lR_iln hC 1163 3 d_law_1163 rfl rfl ?_
  refine lR_ic hC 1164 (1 : Int32) d_law_1164 (by decide) ?_
  refine lR_iadd hC 1165 d_law_1165 ?_
  refine lR_sld hC 1166 (lidx1 hi hL) d_law_1166 ?_
  refine lR_call hC 1167 lcv_M_is llaw_143 ⟨Nat.le_of_ble_eq_true rfl, Nat.le_of_ble_eq_true rfl⟩ xcf7 rfl 85 (by decide) rfl [.int (xs (nI i + (1 : Int32)).toNatClampNeg)] rfl rfl (Nat.le_of_ble_eq_true rfl) d_law_1167 (r := some (.int r)) (S2 := (μ2, ν2)) (kM_is G μ2 ν (xs (nI i + (1 : Int32)).toNatClampNeg) _ h2) ?_
  exact lR_iceq hC 1170 1483 d_law_1170 (by decide) rfl (next _ _ h3)
set_option maxRecDepth 100000 in
set_option maxHeartbeats 4000000 in
theorem law_31 (hC : lCx p e s m below meth c b L xs G) (hL : L ≤ 3584) {i : Nat} (hi : i + 7 ≤ L) {μ ν : xM} (hR : xRel μ ν) (next : ∀ μ2 ν2 : xM, xRel μ2 ν2 → lR p e s m below meth c b G 1483 [(0, .ref b), (1, .ref (xa G 81)), (2, .ref (xa G 85)), (3, .int (nI i))] [] (μ2, ν2)) : lR p e s m below meth c b G 1175 [(0, .ref b), (1, .ref (xa G 81)), (2, .ref (xa G 85)), (3, .int (nI i))] [] (μ, ν) := by
  obtain ⟨r, μ2, ν2, h1, h2, h3⟩ := st_look hR (xs (nI i + (1 : Int32)).toNatClampNeg)
  refine lR_aln hC 1175 1 d_law_1175 rfl rfl ?_
  refine lR_aln hC 1176 0 d_law_1176 rfl rfl ?_
  refine lR_iln hC 1177 3 d_law_1177 rfl rfl ?_
  refine lR_ic hC 1178 (1 : Int32) d_law_1178 (by decide) ?_
  refine lR_iadd hC 1179 d_law_1179 ?_
  refine lR_sld hC 1180 (lidx1 hi hL) d_law_1180 ?_
  refine lR_call hC 1181 lcv_H_look llaw_144 ⟨Nat.le_of_ble_eq_true rfl, Nat.le_of_ble_eq_true rfl⟩ xcf6 rfl 81 (by decide) rfl [.int (xs (nI i + (1 : Int32)).toNatClampNeg)] rfl rfl (Nat.le_of_ble_eq_true rfl) d_law_1181 (r := some (.int r)) (S2 := (μ2, ν)) (kH_look G ν μ (xs (nI i + (1 : Int32)).toNatClampNeg) _ h1) ?_
  refine lR_aln hC 1184 2 d_law_1184 rfl rfl ?_
  refine lR_aln hC 1185 0 d_law_1185 rfl rfl ?_
  refine lR_iln hC 1186 3 d_law_1186 rfl rfl ?_
  refine lR_ic hC 1187 (1 : Int32) d_law_1187 (by decide) ?_
  refine lR_iadd hC 1188 d_law_1188 ?_
  refine lR_sld hC 1189 (lidx1 hi hL) d_law_1189 ?_
  refine lR_call hC 1190 lcv_M_look llaw_147 ⟨Nat.le_of_ble_eq_true rfl, Nat.le_of_ble_eq_true rfl⟩ xcf7 rfl 85 (by decide) rfl [.int (xs (nI i + (1 : Int32)).toNatClampNeg)] rfl rfl (Nat.le_of_ble_eq_true rfl) d_law_1190 (r := some (.int r)) (S2 := (μ2, ν2)) (kM_look G μ2 ν (xs (nI i + (1 : Int32)).toNatClampNeg) _ h2) ?_
  exact lR_iceq hC 1193 1483 d_law_1193 (by decide) rfl (next _ _ h3)
set_option maxRecDepth 100000 in
set_option maxHeartbeats 4000000 in
theorem law_32 (hC : lCx p e s m below meth c b L xs G) (hL : L ≤ 3584) {i : Nat} (hi : i + 7 ≤ L) {μ ν : xM} (hR : xRel μ ν) (next : ∀ μ2 ν2 : xM, xRel μ2 ν2 → lR p e s m below meth c b G 1483 [(0, .ref b), (1, .ref (xa G 81)), (2, .ref (xa G 85)), (3, .int (nI i))] [] (μ2, ν2)) : lR p e s m below meth c b G 1198 [(0, .ref b), (1, .ref (xa G 81)), (2, .ref (xa G 85)), (3, .int (nI i))] [] (μ, ν) := by
  obtain ⟨r, μ2, ν2, h1, h2, h3⟩ := st_kinds hR (xs (nI i + (1 : Int32)).toNatClampNeg)
  refine lR_aln hC 1198 1 d_law_1198 rfl rfl ?_
  refine lR_aln hC 1199 0 d_law_1199 rfl rfl ?_
  refine lR_iln hC 1200 3 d_law_1200 rfl rfl ?_
  refine lR_ic hC 1201 (1 : Int32) d_law_1201 (by decide) ?_
  refine lR_iadd hC 1202 d_law_1202 ?_
  refine lR_sld hC 1203 (lidx1 hi hL) d_law_1203 ?_
  refine lR_call hC 1204 lcv_H_kinds llaw_148 ⟨Nat.le_of_ble_eq_true rfl, Nat.le_of_ble_eq_true rfl⟩ xcf6 rfl 81 (by decide) rfl [.int (xs (nI i + (1 : Int32)).toNatClampNeg)] rfl rfl (Nat.le_of_ble_eq_true rfl) d_law_1204 (r := some (.int r)) (S2 := (μ2, ν)) (kH_kinds G ν μ (xs (nI i + (1 : Int32)).toNatClampNeg) _ h1) ?_
  refine lR_aln hC 1207 2 d_law_1207 rfl rfl ?_
  refine lR_aln hC 1208 0 d_law_1208 rfl rfl ?_
  refine lR_iln hC 1209 3 d_law_1209 rfl rfl ?_
  refine lR_ic hC 1210 (1 : Int32) d_law_1210 (by decide) ?_
  refine lR_iadd hC 1211 d_law_1211 ?_
  refine lR_sld hC 1212 (lidx1 hi hL) d_law_1212 ?_
  refine lR_call hC 1213 lcv_M_kinds llaw_151 ⟨Nat.le_of_ble_eq_true rfl, Nat.le_of_ble_eq_true rfl⟩ xcf7 rfl 85 (by decide) rfl [.int (xs (nI i + (1 : Int32)).toNatClampNeg)] rfl rfl (Nat.le_of_ble_eq_true rfl) d_law_1213 (r := some (.int r)) (S2 := (μ2, ν2)) (kM_kinds G μ2 ν (xs (nI i + (1 : Int32)).toNatClampNeg) _ h2) ?_
  exact lR_iceq hC 1216 1483 d_law_1216 (by decide) rfl (next _ _ h3)
set_option maxRecDepth 100000 in
set_option maxHeartbeats 4000000 in
theorem law_33 (hC : lCx p e s m below meth c b L xs G) (hL : L ≤ 3584) {i : Nat} (hi : i + 7 ≤ L) {μ ν : xM} (hR : xRel μ ν) (next : ∀ μ2 ν2 : xM, xRel μ2 ν2 → lR p e s m below meth c b G 1483 [(0, .ref b), (1, .ref (xa G 81)), (2, .ref (xa G 85)), (3, .int (nI i))] [] (μ2, ν2)) : lR p e s m below meth c b G 1221 [(0, .ref b), (1, .ref (xa G 81)), (2, .ref (xa G 85)), (3, .int (nI i))] [] (μ, ν) := by
  obtain ⟨r, μ2, ν2, h1, h2, h3⟩ := st_ask hR (xs (nI i + (1 : Int32)).toNatClampNeg)
  refine lR_aln hC 1221 1 d_law_1221 rfl rfl ?_
  refine lR_aln hC 1222 0 d_law_1222 rfl rfl ?_
  refine lR_iln hC 1223 3 d_law_1223 rfl rfl ?_
  refine lR_ic hC 1224 (1 : Int32) d_law_1224 (by decide) ?_
  refine lR_iadd hC 1225 d_law_1225 ?_
  refine lR_sld hC 1226 (lidx1 hi hL) d_law_1226 ?_
  refine lR_call hC 1227 lcv_H_ask llaw_152 ⟨Nat.le_of_ble_eq_true rfl, Nat.le_of_ble_eq_true rfl⟩ xcf6 rfl 81 (by decide) rfl [.int (xs (nI i + (1 : Int32)).toNatClampNeg)] rfl rfl (Nat.le_of_ble_eq_true rfl) d_law_1227 (r := some (.int r)) (S2 := (μ2, ν)) (kH_ask G ν μ (xs (nI i + (1 : Int32)).toNatClampNeg) _ h1) ?_
  refine lR_aln hC 1230 2 d_law_1230 rfl rfl ?_
  refine lR_aln hC 1231 0 d_law_1231 rfl rfl ?_
  refine lR_iln hC 1232 3 d_law_1232 rfl rfl ?_
  refine lR_ic hC 1233 (1 : Int32) d_law_1233 (by decide) ?_
  refine lR_iadd hC 1234 d_law_1234 ?_
  refine lR_sld hC 1235 (lidx1 hi hL) d_law_1235 ?_
  refine lR_call hC 1236 lcv_M_ask llaw_155 ⟨Nat.le_of_ble_eq_true rfl, Nat.le_of_ble_eq_true rfl⟩ xcf7 rfl 85 (by decide) rfl [.int (xs (nI i + (1 : Int32)).toNatClampNeg)] rfl rfl (Nat.le_of_ble_eq_true rfl) d_law_1236 (r := some (.int r)) (S2 := (μ2, ν2)) (kM_ask G μ2 ν (xs (nI i + (1 : Int32)).toNatClampNeg) _ h2) ?_
  exact lR_iceq hC 1239 1483 d_law_1239 (by decide) rfl (next _ _ h3)
set_option maxRecDepth 100000 in
set_option maxHeartbeats 4000000 in
theorem law_34 (hC : lCx p e s m below meth c b L xs G) (hL : L ≤ 3584) {i : Nat} (hi : i + 7 ≤ L) {μ ν : xM} (hR : xRel μ ν) (next : ∀ μ2 ν2 : xM, xRel μ2 ν2 → lR p e s m below meth c b G 1483 [(0, .ref b), (1, .ref (xa G 81)), (2, .ref (xa G 85)), (3, .int (nI i))] [] (μ2, ν2)) : lR p e s m below meth c b G 1244 [(0, .ref b), (1, .ref (xa G 81)), (2, .ref (xa G 85)), (3, .int (nI i))] [] (μ, ν) := by
  obtain ⟨r, μ2, ν2, h1, h2, h3⟩ := st_bids hR (xs (nI i + (1 : Int32)).toNatClampNeg) (xs (nI i + (2 : Int32)).toNatClampNeg)
  refine lR_aln hC 1244 1 d_law_1244 rfl rfl ?_
  refine lR_aln hC 1245 0 d_law_1245 rfl rfl ?_
  refine lR_iln hC 1246 3 d_law_1246 rfl rfl ?_
  refine lR_ic hC 1247 (1 : Int32) d_law_1247 (by decide) ?_
  refine lR_iadd hC 1248 d_law_1248 ?_
  refine lR_sld hC 1249 (lidx1 hi hL) d_law_1249 ?_
  refine lR_aln hC 1250 0 d_law_1250 rfl rfl ?_
  refine lR_iln hC 1251 3 d_law_1251 rfl rfl ?_
  refine lR_ic hC 1252 (2 : Int32) d_law_1252 (by decide) ?_
  refine lR_iadd hC 1253 d_law_1253 ?_
  refine lR_sld hC 1254 (lidx2 hi hL) d_law_1254 ?_
  refine lR_call hC 1255 lcv_H_bids llaw_156 ⟨Nat.le_of_ble_eq_true rfl, Nat.le_of_ble_eq_true rfl⟩ xcf6 rfl 81 (by decide) rfl [.int (xs (nI i + (1 : Int32)).toNatClampNeg), .int (xs (nI i + (2 : Int32)).toNatClampNeg)] rfl rfl (Nat.le_of_ble_eq_true rfl) d_law_1255 (r := some (.int r)) (S2 := (μ2, ν)) (kH_bids G ν μ (xs (nI i + (1 : Int32)).toNatClampNeg) (xs (nI i + (2 : Int32)).toNatClampNeg) _ h1) ?_
  refine lR_aln hC 1258 2 d_law_1258 rfl rfl ?_
  refine lR_aln hC 1259 0 d_law_1259 rfl rfl ?_
  refine lR_iln hC 1260 3 d_law_1260 rfl rfl ?_
  refine lR_ic hC 1261 (1 : Int32) d_law_1261 (by decide) ?_
  refine lR_iadd hC 1262 d_law_1262 ?_
  refine lR_sld hC 1263 (lidx1 hi hL) d_law_1263 ?_
  refine lR_aln hC 1264 0 d_law_1264 rfl rfl ?_
  refine lR_iln hC 1265 3 d_law_1265 rfl rfl ?_
  refine lR_ic hC 1266 (2 : Int32) d_law_1266 (by decide) ?_
  refine lR_iadd hC 1267 d_law_1267 ?_
  refine lR_sld hC 1268 (lidx2 hi hL) d_law_1268 ?_
  refine lR_call hC 1269 lcv_M_bids llaw_159 ⟨Nat.le_of_ble_eq_true rfl, Nat.le_of_ble_eq_true rfl⟩ xcf7 rfl 85 (by decide) rfl [.int (xs (nI i + (1 : Int32)).toNatClampNeg), .int (xs (nI i + (2 : Int32)).toNatClampNeg)] rfl rfl (Nat.le_of_ble_eq_true rfl) d_law_1269 (r := some (.int r)) (S2 := (μ2, ν2)) (kM_bids G μ2 ν (xs (nI i + (1 : Int32)).toNatClampNeg) (xs (nI i + (2 : Int32)).toNatClampNeg) _ h2) ?_
  exact lR_iceq hC 1272 1483 d_law_1272 (by decide) rfl (next _ _ h3)
set_option maxRecDepth 100000 in
set_option maxHeartbeats 4000000 in
theorem law_35 (hC : lCx p e s m below meth c b L xs G) (hL : L ≤ 3584) {i : Nat} (hi : i + 7 ≤ L) {μ ν : xM} (hR : xRel μ ν) (next : ∀ μ2 ν2 : xM, xRel μ2 ν2 → lR p e s m below meth c b G 1483 [(0, .ref b), (1, .ref (xa G 81)), (2, .ref (xa G 85)), (3, .int (nI i))] [] (μ2, ν2)) : lR p e s m below meth c b G 1277 [(0, .ref b), (1, .ref (xa G 81)), (2, .ref (xa G 85)), (3, .int (nI i))] [] (μ, ν) := by
  obtain ⟨r, μ2, ν2, h1, h2, h3⟩ := st_weeps hR (xs (nI i + (1 : Int32)).toNatClampNeg) (xs (nI i + (2 : Int32)).toNatClampNeg) (xs (nI i + (3 : Int32)).toNatClampNeg)
  refine lR_aln hC 1277 1 d_law_1277 rfl rfl ?_
  refine lR_aln hC 1278 0 d_law_1278 rfl rfl ?_
  refine lR_iln hC 1279 3 d_law_1279 rfl rfl ?_
  refine lR_ic hC 1280 (1 : Int32) d_law_1280 (by decide) ?_
  refine lR_iadd hC 1281 d_law_1281 ?_
  refine lR_sld hC 1282 (lidx1 hi hL) d_law_1282 ?_
  refine lR_aln hC 1283 0 d_law_1283 rfl rfl ?_
  refine lR_iln hC 1284 3 d_law_1284 rfl rfl ?_
  refine lR_ic hC 1285 (2 : Int32) d_law_1285 (by decide) ?_
  refine lR_iadd hC 1286 d_law_1286 ?_
  refine lR_sld hC 1287 (lidx2 hi hL) d_law_1287 ?_
  refine lR_aln hC 1288 0 d_law_1288 rfl rfl ?_
  refine lR_iln hC 1289 3 d_law_1289 rfl rfl ?_
  refine lR_ic hC 1290 (3 : Int32) d_law_1290 (by decide) ?_
  refine lR_iadd hC 1291 d_law_1291 ?_
  refine lR_sld hC 1292 (lidx3 hi hL) d_law_1292 ?_
  refine lR_call hC 1293 lcv_H_weeps llaw_160 ⟨Nat.le_of_ble_eq_true rfl, Nat.le_of_ble_eq_true rfl⟩ xcf6 rfl 81 (by decide) rfl [.int (xs (nI i + (1 : Int32)).toNatClampNeg), .int (xs (nI i + (2 : Int32)).toNatClampNeg), .int (xs (nI i + (3 : Int32)).toNatClampNeg)] rfl rfl (Nat.le_of_ble_eq_true rfl) d_law_1293 (r := some (.int r)) (S2 := (μ2, ν)) (kH_weeps G ν μ (xs (nI i + (1 : Int32)).toNatClampNeg) (xs (nI i + (2 : Int32)).toNatClampNeg) (xs (nI i + (3 : Int32)).toNatClampNeg) _ h1) ?_
  refine lR_aln hC 1296 2 d_law_1296 rfl rfl ?_
  refine lR_aln hC 1297 0 d_law_1297 rfl rfl ?_
  refine lR_iln hC 1298 3 d_law_1298 rfl rfl ?_
  refine lR_ic hC 1299 (1 : Int32) d_law_1299 (by decide) ?_
  refine lR_iadd hC 1300 d_law_1300 ?_
  refine lR_sld hC 1301 (lidx1 hi hL) d_law_1301 ?_
  refine lR_aln hC 1302 0 d_law_1302 rfl rfl ?_
  refine lR_iln hC 1303 3 d_law_1303 rfl rfl ?_
  refine lR_ic hC 1304 (2 : Int32) d_law_1304 (by decide) ?_
  refine lR_iadd hC 1305 d_law_1305 ?_
  refine lR_sld hC 1306 (lidx2 hi hL) d_law_1306 ?_
  refine lR_aln hC 1307 0 d_law_1307 rfl rfl ?_
  refine lR_iln hC 1308 3 d_law_1308 rfl rfl ?_
  refine lR_ic hC 1309 (3 : Int32) d_law_1309 (by decide) ?_
  refine lR_iadd hC 1310 d_law_1310 ?_
  refine lR_sld hC 1311 (lidx3 hi hL) d_law_1311 ?_
  refine lR_call hC 1312 lcv_M_weeps llaw_163 ⟨Nat.le_of_ble_eq_true rfl, Nat.le_of_ble_eq_true rfl⟩ xcf7 rfl 85 (by decide) rfl [.int (xs (nI i + (1 : Int32)).toNatClampNeg), .int (xs (nI i + (2 : Int32)).toNatClampNeg), .int (xs (nI i + (3 : Int32)).toNatClampNeg)] rfl rfl (Nat.le_of_ble_eq_true rfl) d_law_1312 (r := some (.int r)) (S2 := (μ2, ν2)) (kM_weeps G μ2 ν (xs (nI i + (1 : Int32)).toNatClampNeg) (xs (nI i + (2 : Int32)).toNatClampNeg) (xs (nI i + (3 : Int32)).toNatClampNeg) _ h2) ?_
  exact lR_iceq hC 1315 1483 d_law_1315 (by decide) rfl (next _ _ h3)
set_option maxRecDepth 100000 in
set_option maxHeartbeats 4000000 in
theorem law_36 (hC : lCx p e s m below meth c b L xs G) (hL : L ≤ 3584) {i : Nat} (hi : i + 7 ≤ L) {μ ν : xM} (hR : xRel μ ν) (next : ∀ μ2 ν2 : xM, xRel μ2 ν2 → lR p e s m below meth c b G 1483 [(0, .ref b), (1, .ref (xa G 81)), (2, .ref (xa G 85)), (3, .int (nI i))] [] (μ2, ν2)) : lR p e s m below meth c b G 1320 [(0, .ref b), (1, .ref (xa G 81)), (2, .ref (xa G 85)), (3, .int (nI i))] [] (μ, ν) := by
  obtain ⟨r, μ2, ν2, h1, h2, h3⟩ := st_generations hR (xs (nI i + (1 : Int32)).toNatClampNeg) (xs (nI i + (2 : Int32)).toNatClampNeg)
  refine lR_aln hC 1320 1 d_law_1320 rfl rfl ?_
  refine lR_aln hC 1321 0 d_law_1321 rfl rfl ?_
  refine lR_iln hC 1322 3 d_law_1322 rfl rfl ?_
  refine lR_ic hC 1323 (1 : Int32) d_law_1323 (by decide) ?_
  refine lR_iadd hC 1324 d_law_1324 ?_
  refine lR_sld hC 1325 (lidx1 hi hL) d_law_1325 ?_
  refine lR_aln hC 1326 0 d_law_1326 rfl rfl ?_
  refine lR_iln hC 1327 3 d_law_1327 rfl rfl ?_
  refine lR_ic hC 1328 (2 : Int32) d_law_1328 (by decide) ?_
  refine lR_iadd hC 1329 d_law_1329 ?_
  refine lR_sld hC 1330 (lidx2 hi hL) d_law_1330 ?_
  refine lR_call hC 1331 lcv_H_generations llaw_164 ⟨Nat.le_of_ble_eq_true rfl, Nat.le_of_ble_eq_true rfl⟩ xcf6 rfl 81 (by decide) rfl [.int (xs (nI i + (1 : Int32)).toNatClampNeg), .int (xs (nI i + (2 : Int32)).toNatClampNeg)] rfl rfl (Nat.le_of_ble_eq_true rfl) d_law_1331 (r := some (.int r)) (S2 := (μ2, ν)) (kH_generations G ν μ (xs (nI i + (1 : Int32)).toNatClampNeg) (xs (nI i + (2 : Int32)).toNatClampNeg) _ h1) ?_
  refine lR_aln hC 1334 2 d_law_1334 rfl rfl ?_
  refine lR_aln hC 1335 0 d_law_1335 rfl rfl ?_
  refine lR_iln hC 1336 3 d_law_1336 rfl rfl ?_
  refine lR_ic hC 1337 (1 : Int32) d_law_1337 (by decide) ?_
  refine lR_iadd hC 1338 d_law_1338 ?_
  refine lR_sld hC 1339 (lidx1 hi hL) d_law_1339 ?_
  refine lR_aln hC 1340 0 d_law_1340 rfl rfl ?_
  refine lR_iln hC 1341 3 d_law_1341 rfl rfl ?_
  refine lR_ic hC 1342 (2 : Int32) d_law_1342 (by decide) ?_
  refine lR_iadd hC 1343 d_law_1343 ?_
  refine lR_sld hC 1344 (lidx2 hi hL) d_law_1344 ?_
  refine lR_call hC 1345 lcv_M_generations llaw_167 ⟨Nat.le_of_ble_eq_true rfl, Nat.le_of_ble_eq_true rfl⟩ xcf7 rfl 85 (by decide) rfl [.int (xs (nI i + (1 : Int32)).toNatClampNeg), .int (xs (nI i + (2 : Int32)).toNatClampNeg)] rfl rfl (Nat.le_of_ble_eq_true rfl) d_law_1345 (r := some (.int r)) (S2 := (μ2, ν2)) (kM_generations G μ2 ν (xs (nI i + (1 : Int32)).toNatClampNeg) (xs (nI i + (2 : Int32)).toNatClampNeg) _ h2) ?_
  exact lR_iceq hC 1348 1483 d_law_1348 (by decide) rfl (next _ _ h3)
set_option maxRecDepth 100000 in
set_option maxHeartbeats 4000000 in
theorem law_37 (hC : lCx p e s m below meth c b L xs G) (hL : L ≤ 3584) {i : Nat} (hi : i + 7 ≤ L) {μ ν : xM} (hR : xRel μ ν) (next : ∀ μ2 ν2 : xM, xRel μ2 ν2 → lR p e s m below meth c b G 1483 [(0, .ref b), (1, .ref (xa G 81)), (2, .ref (xa G 85)), (3, .int (nI i))] [] (μ2, ν2)) : lR p e s m below meth c b G 1353 [(0, .ref b), (1, .ref (xa G 81)), (2, .ref (xa G 85)), (3, .int (nI i))] [] (μ, ν) := by
  obtain ⟨r, μ2, ν2, h1, h2, h3⟩ := st_part hR (xs (nI i + (1 : Int32)).toNatClampNeg)
  refine lR_aln hC 1353 1 d_law_1353 rfl rfl ?_
  refine lR_aln hC 1354 0 d_law_1354 rfl rfl ?_
  refine lR_iln hC 1355 3 d_law_1355 rfl rfl ?_
  refine lR_ic hC 1356 (1 : Int32) d_law_1356 (by decide) ?_
  refine lR_iadd hC 1357 d_law_1357 ?_
  refine lR_sld hC 1358 (lidx1 hi hL) d_law_1358 ?_
  refine lR_call hC 1359 lcv_H_part llaw_168 ⟨Nat.le_of_ble_eq_true rfl, Nat.le_of_ble_eq_true rfl⟩ xcf6 rfl 81 (by decide) rfl [.int (xs (nI i + (1 : Int32)).toNatClampNeg)] rfl rfl (Nat.le_of_ble_eq_true rfl) d_law_1359 (r := some (.long r)) (S2 := (μ2, ν)) (kH_part G ν μ (xs (nI i + (1 : Int32)).toNatClampNeg) _ h1) ?_
  refine lR_aln hC 1362 2 d_law_1362 rfl rfl ?_
  refine lR_aln hC 1363 0 d_law_1363 rfl rfl ?_
  refine lR_iln hC 1364 3 d_law_1364 rfl rfl ?_
  refine lR_ic hC 1365 (1 : Int32) d_law_1365 (by decide) ?_
  refine lR_iadd hC 1366 d_law_1366 ?_
  refine lR_sld hC 1367 (lidx1 hi hL) d_law_1367 ?_
  refine lR_call hC 1368 lcv_M_part llaw_172 ⟨Nat.le_of_ble_eq_true rfl, Nat.le_of_ble_eq_true rfl⟩ xcf7 rfl 85 (by decide) rfl [.int (xs (nI i + (1 : Int32)).toNatClampNeg)] rfl rfl (Nat.le_of_ble_eq_true rfl) d_law_1368 (r := some (.long r)) (S2 := (μ2, ν2)) (kM_part G μ2 ν (xs (nI i + (1 : Int32)).toNatClampNeg) _ h2) ?_
  refine lR_lcmp hC 1371 d_law_1371 ?_
  exact lR_ifeq hC 1372 1483 d_law_1372 (by decide) (lcmp_self r) (next _ _ h3)
set_option maxRecDepth 100000 in
set_option maxHeartbeats 4000000 in
theorem law_38 (hC : lCx p e s m below meth c b L xs G) (hL : L ≤ 3584) {i : Nat} (hi : i + 7 ≤ L) {μ ν : xM} (hR : xRel μ ν) (next : ∀ μ2 ν2 : xM, xRel μ2 ν2 → lR p e s m below meth c b G 1483 [(0, .ref b), (1, .ref (xa G 81)), (2, .ref (xa G 85)), (3, .int (nI i))] [] (μ2, ν2)) : lR p e s m below meth c b G 1377 [(0, .ref b), (1, .ref (xa G 81)), (2, .ref (xa G 85)), (3, .int (nI i))] [] (μ, ν) := by
  obtain ⟨r, μ2, ν2, h1, h2, h3⟩ := st_image hR (xs (nI i + (1 : Int32)).toNatClampNeg)
  refine lR_aln hC 1377 1 d_law_1377 rfl rfl ?_
  refine lR_aln hC 1378 0 d_law_1378 rfl rfl ?_
  refine lR_iln hC 1379 3 d_law_1379 rfl rfl ?_
  refine lR_ic hC 1380 (1 : Int32) d_law_1380 (by decide) ?_
  refine lR_iadd hC 1381 d_law_1381 ?_
  refine lR_sld hC 1382 (lidx1 hi hL) d_law_1382 ?_
  refine lR_call hC 1383 lcv_H_image llaw_173 ⟨Nat.le_of_ble_eq_true rfl, Nat.le_of_ble_eq_true rfl⟩ xcf6 rfl 81 (by decide) rfl [.int (xs (nI i + (1 : Int32)).toNatClampNeg)] rfl rfl (Nat.le_of_ble_eq_true rfl) d_law_1383 (r := some (.int r)) (S2 := (μ2, ν)) (kH_image G ν μ (xs (nI i + (1 : Int32)).toNatClampNeg) _ h1) ?_
  refine lR_aln hC 1386 2 d_law_1386 rfl rfl ?_
  refine lR_aln hC 1387 0 d_law_1387 rfl rfl ?_
  refine lR_iln hC 1388 3 d_law_1388 rfl rfl ?_
  refine lR_ic hC 1389 (1 : Int32) d_law_1389 (by decide) ?_
  refine lR_iadd hC 1390 d_law_1390 ?_
  refine lR_sld hC 1391 (lidx1 hi hL) d_law_1391 ?_
  refine lR_call hC 1392 lcv_M_image llaw_176 ⟨Nat.le_of_ble_eq_true rfl, Nat.le_of_ble_eq_true rfl⟩ xcf7 rfl 85 (by decide) rfl [.int (xs (nI i + (1 : Int32)).toNatClampNeg)] rfl rfl (Nat.le_of_ble_eq_true rfl) d_law_1392 (r := some (.int r)) (S2 := (μ2, ν2)) (kM_image G μ2 ν (xs (nI i + (1 : Int32)).toNatClampNeg) _ h2) ?_
  exact lR_iceq hC 1395 1483 d_law_1395 (by decide) rfl (next _ _ h3)
set_option maxRecDepth 100000 in
set_option maxHeartbeats 4000000 in
theorem law_39 (hC : lCx p e s m below meth c b L xs G) (hL : L ≤ 3584) {i : Nat} (hi : i + 7 ≤ L) {μ ν : xM} (hR : xRel μ ν) (next : ∀ μ2 ν2 : xM, xRel μ2 ν2 → lR p e s m below meth c b G 1483 [(0, .ref b), (1, .ref (xa G 81)), (2, .ref (xa G 85)), (3, .int (nI i))] [] (μ2, ν2)) : lR p e s m below meth c b G 1400 [(0, .ref b), (1, .ref (xa G 81)), (2, .ref (xa G 85)), (3, .int (nI i))] [] (μ, ν) := by
  obtain ⟨r, μ2, ν2, h1, h2, h3⟩ := st_from hR (xs (nI i + (1 : Int32)).toNatClampNeg)
  refine lR_aln hC 1400 1 d_law_1400 rfl rfl ?_
  refine lR_aln hC 1401 0 d_law_1401 rfl rfl ?_
  refine lR_iln hC 1402 3 d_law_1402 rfl rfl ?_
  refine lR_ic hC 1403 (1 : Int32) d_law_1403 (by decide) ?_
  refine lR_iadd hC 1404 d_law_1404 ?_
  refine lR_sld hC 1405 (lidx1 hi hL) d_law_1405 ?_
  refine lR_call hC 1406 lcv_H_from llaw_177 ⟨Nat.le_of_ble_eq_true rfl, Nat.le_of_ble_eq_true rfl⟩ xcf6 rfl 81 (by decide) rfl [.int (xs (nI i + (1 : Int32)).toNatClampNeg)] rfl rfl (Nat.le_of_ble_eq_true rfl) d_law_1406 (r := some (.int r)) (S2 := (μ2, ν)) (kH_from G ν μ (xs (nI i + (1 : Int32)).toNatClampNeg) _ h1) ?_
  refine lR_aln hC 1409 2 d_law_1409 rfl rfl ?_
  refine lR_aln hC 1410 0 d_law_1410 rfl rfl ?_
  refine lR_iln hC 1411 3 d_law_1411 rfl rfl ?_
  refine lR_ic hC 1412 (1 : Int32) d_law_1412 (by decide) ?_
  refine lR_iadd hC 1413 d_law_1413 ?_
  refine lR_sld hC 1414 (lidx1 hi hL) d_law_1414 ?_
  refine lR_call hC 1415 lcv_M_from llaw_180 ⟨Nat.le_of_ble_eq_true rfl, Nat.le_of_ble_eq_true rfl⟩ xcf7 rfl 85 (by decide) rfl [.int (xs (nI i + (1 : Int32)).toNatClampNeg)] rfl rfl (Nat.le_of_ble_eq_true rfl) d_law_1415 (r := some (.int r)) (S2 := (μ2, ν2)) (kM_from G μ2 ν (xs (nI i + (1 : Int32)).toNatClampNeg) _ h2) ?_
  exact lR_iceq hC 1418 1483 d_law_1418 (by decide) rfl (next _ _ h3)
set_option maxRecDepth 100000 in
set_option maxHeartbeats 4000000 in
theorem law_40 (hC : lCx p e s m below meth c b L xs G) (hL : L ≤ 3584) {i : Nat} (hi : i + 7 ≤ L) {μ ν : xM} (hR : xRel μ ν) (next : ∀ μ2 ν2 : xM, xRel μ2 ν2 → lR p e s m below meth c b G 1483 [(0, .ref b), (1, .ref (xa G 81)), (2, .ref (xa G 85)), (3, .int (nI i))] [] (μ2, ν2)) : lR p e s m below meth c b G 1423 [(0, .ref b), (1, .ref (xa G 81)), (2, .ref (xa G 85)), (3, .int (nI i))] [] (μ, ν) := by
  obtain ⟨r, μ2, ν2, h1, h2, h3⟩ := st_status hR (xs (nI i + (1 : Int32)).toNatClampNeg)
  refine lR_aln hC 1423 1 d_law_1423 rfl rfl ?_
  refine lR_aln hC 1424 0 d_law_1424 rfl rfl ?_
  refine lR_iln hC 1425 3 d_law_1425 rfl rfl ?_
  refine lR_ic hC 1426 (1 : Int32) d_law_1426 (by decide) ?_
  refine lR_iadd hC 1427 d_law_1427 ?_
  refine lR_sld hC 1428 (lidx1 hi hL) d_law_1428 ?_
  refine lR_call hC 1429 lcv_H_status llaw_181 ⟨Nat.le_of_ble_eq_true rfl, Nat.le_of_ble_eq_true rfl⟩ xcf6 rfl 81 (by decide) rfl [.int (xs (nI i + (1 : Int32)).toNatClampNeg)] rfl rfl (Nat.le_of_ble_eq_true rfl) d_law_1429 (r := some (.int r)) (S2 := (μ2, ν)) (kH_status G ν μ (xs (nI i + (1 : Int32)).toNatClampNeg) _ h1) ?_
  refine lR_aln hC 1432 2 d_law_1432 rfl rfl ?_
  refine lR_aln hC 1433 0 d_law_1433 rfl rfl ?_
  refine lR_iln hC 1434 3 d_law_1434 rfl rfl ?_
  refine lR_ic hC 1435 (1 : Int32) d_law_1435 (by decide) ?_
  refine lR_iadd hC 1436 d_law_1436 ?_
  refine lR_sld hC 1437 (lidx1 hi hL) d_law_1437 ?_
  refine lR_call hC 1438 lcv_M_status llaw_184 ⟨Nat.le_of_ble_eq_true rfl, Nat.le_of_ble_eq_true rfl⟩ xcf7 rfl 85 (by decide) rfl [.int (xs (nI i + (1 : Int32)).toNatClampNeg)] rfl rfl (Nat.le_of_ble_eq_true rfl) d_law_1438 (r := some (.int r)) (S2 := (μ2, ν2)) (kM_status G μ2 ν (xs (nI i + (1 : Int32)).toNatClampNeg) _ h2) ?_
  exact lR_iceq hC 1441 1483 d_law_1441 (by decide) rfl (next _ _ h3)
set_option maxRecDepth 100000 in
set_option maxHeartbeats 4000000 in
theorem law_41 (hC : lCx p e s m below meth c b L xs G) (hL : L ≤ 3584) {i : Nat} (hi : i + 7 ≤ L) {μ ν : xM} (hR : xRel μ ν) (next : ∀ μ2 ν2 : xM, xRel μ2 ν2 → lR p e s m below meth c b G 1483 [(0, .ref b), (1, .ref (xa G 81)), (2, .ref (xa G 85)), (3, .int (nI i))] [] (μ2, ν2)) : lR p e s m below meth c b G 1446 [(0, .ref b), (1, .ref (xa G 81)), (2, .ref (xa G 85)), (3, .int (nI i))] [] (μ, ν) := by
  obtain ⟨r, μ2, ν2, h1, h2, h3⟩ := st_count hR (xs (nI i + (1 : Int32)).toNatClampNeg)
  refine lR_aln hC 1446 1 d_law_1446 rfl rfl ?_
  refine lR_aln hC 1447 0 d_law_1447 rfl rfl ?_
  refine lR_iln hC 1448 3 d_law_1448 rfl rfl ?_
  refine lR_ic hC 1449 (1 : Int32) d_law_1449 (by decide) ?_
  refine lR_iadd hC 1450 d_law_1450 ?_
  refine lR_sld hC 1451 (lidx1 hi hL) d_law_1451 ?_
  refine lR_call hC 1452 lcv_H_count llaw_185 ⟨Nat.le_of_ble_eq_true rfl, Nat.le_of_ble_eq_true rfl⟩ xcf6 rfl 81 (by decide) rfl [.int (xs (nI i + (1 : Int32)).toNatClampNeg)] rfl rfl (Nat.le_of_ble_eq_true rfl) d_law_1452 (r := some (.int r)) (S2 := (μ2, ν)) (kH_count G ν μ (xs (nI i + (1 : Int32)).toNatClampNeg) _ h1) ?_
  refine lR_aln hC 1455 2 d_law_1455 rfl rfl ?_
  refine lR_aln hC 1456 0 d_law_1456 rfl rfl ?_
  refine lR_iln hC 1457 3 d_law_1457 rfl rfl ?_
  refine lR_ic hC 1458 (1 : Int32) d_law_1458 (by decide) ?_
  refine lR_iadd hC 1459 d_law_1459 ?_
  refine lR_sld hC 1460 (lidx1 hi hL) d_law_1460 ?_
  refine lR_call hC 1461 lcv_M_count llaw_188 ⟨Nat.le_of_ble_eq_true rfl, Nat.le_of_ble_eq_true rfl⟩ xcf7 rfl 85 (by decide) rfl [.int (xs (nI i + (1 : Int32)).toNatClampNeg)] rfl rfl (Nat.le_of_ble_eq_true rfl) d_law_1461 (r := some (.int r)) (S2 := (μ2, ν2)) (kM_count G μ2 ν (xs (nI i + (1 : Int32)).toNatClampNeg) _ h2) ?_
  exact lR_iceq hC 1464 1483 d_law_1464 (by decide) rfl (next _ _ h3)
set_option maxRecDepth 100000 in
set_option maxHeartbeats 4000000 in
theorem law_42 (hC : lCx p e s m below meth c b L xs G) (hL : L ≤ 3584) {i : Nat} (hi : i + 7 ≤ L) {μ ν : xM} (hR : xRel μ ν) (next : ∀ μ2 ν2 : xM, xRel μ2 ν2 → lR p e s m below meth c b G 1483 [(0, .ref b), (1, .ref (xa G 81)), (2, .ref (xa G 85)), (3, .int (nI i))] [] (μ2, ν2)) : lR p e s m below meth c b G 1469 [(0, .ref b), (1, .ref (xa G 81)), (2, .ref (xa G 85)), (3, .int (nI i))] [] (μ, ν) := by
  obtain ⟨r, μ2, ν2, h1, h2, h3⟩ := st_digest hR 
  refine lR_aln hC 1469 1 d_law_1469 rfl rfl ?_
  refine lR_call hC 1470 lcv_H_digest llaw_189 ⟨Nat.le_of_ble_eq_true rfl, Nat.le_of_ble_eq_true rfl⟩ xcf6 rfl 81 (by decide) rfl [] rfl rfl (Nat.le_of_ble_eq_true rfl) d_law_1470 (r := some (.long r)) (S2 := (μ2, ν)) (kH_digest G ν μ  _ h1) ?_
  refine lR_aln hC 1473 2 d_law_1473 rfl rfl ?_
  refine lR_call hC 1474 lcv_M_digest llaw_193 ⟨Nat.le_of_ble_eq_true rfl, Nat.le_of_ble_eq_true rfl⟩ xcf7 rfl 85 (by decide) rfl [] rfl rfl (Nat.le_of_ble_eq_true rfl) d_law_1474 (r := some (.long r)) (S2 := (μ2, ν2)) (kM_digest G μ2 ν  _ h2) ?_
  refine lR_lcmp hC 1477 d_law_1477 ?_
  exact lR_ifeq hC 1478 1483 d_law_1478 (by decide) (lcmp_self r) (next _ _ h3)
set_option maxRecDepth 100000 in
set_option maxHeartbeats 4000000 in
theorem lhead {i L : Nat} (hL : L ≤ 3584) (hi : i ≤ L + 7) (h : ¬ Int32.ofNat L - 7 < nI i) : i + 7 ≤ L := by
  have h1 : (Int32.ofNat L).toInt = (L : Int) := nI_toInt (n := L) (by omega)
  have h2 : (nI i).toInt = (i : Int) := nI_toInt (by omega)
  have h3 : (7 : Int32).toInt = 7 := rfl
  have h4 : (Int32.ofNat L - 7).toInt = (L : Int) - 7 := by
    rw [Int32.toInt_sub, h1, h3]
    apply Int.bmod_eq_of_le <;> omega
  rw [Int32.lt_iff_toInt_lt, h4, h2] at h
  omega
set_option maxRecDepth 100000 in
set_option maxHeartbeats 4000000 in
theorem law_loop (hC : lCx p e s m below meth c b L xs G) (hL : L ≤ 3584) : ∀ (n i : Nat), i ≤ L + 7 → L + 8 ≤ i + n → ∀ μ ν : xM, xRel μ ν → lR p e s m below meth c b G 18 [(0, .ref b), (1, .ref (xa G 81)), (2, .ref (xa G 85)), (3, .int (nI i))] [] (μ, ν) := by
  intro n
  induction n with
  | zero => intro i h1 h2; omega
  | succ n ih =>
    intro i h1 h2 μ ν hR
    refine lR_iln hC 18 3 d_law_18 rfl rfl ?_
    refine lR_aln hC 19 0 d_law_19 rfl rfl ?_
    refine lR_slen hC 20 d_law_20 ?_
    refine lR_bp hC 21 (7 : Int32) d_law_21 (by decide) ?_
    refine lR_isub hC 23 d_law_23 ?_
    refine lR_icgt hC 24 1489 d_law_24 (by decide) (fun _ => ?_) (fun hg => ?_)
    · refine lR_ic hC 1489 (1 : Int32) d_law_1489 (by decide) ?_
      exact lR_ret hC 1490 d_law_1490
    have h7 := lhead hL h1 hg
    have next : ∀ μ2 ν2 : xM, xRel μ2 ν2 → lR p e s m below meth c b G 1483 [(0, .ref b), (1, .ref (xa G 81)), (2, .ref (xa G 85)), (3, .int (nI i))] [] (μ2, ν2) := by
      intro μ2 ν2 h3
      refine lR_iinc hC 1483 3 (nI (i + 7)) [(3, .int (nI (i + 7))), (0, .ref b), (1, .ref (xa G 81)), (2, .ref (xa G 85))] d_law_1483 rfl (nI_add i 7) (by decide) rfl ?_
      refine lR_goto hC 1486 18 d_law_1486 (by decide) ?_
      exact lR_sub [1, 2, 3, 0] rfl (ih (i + 7) (by omega) (by omega) μ2 ν2 h3)
    refine lR_aln hC 27 0 d_law_27 rfl rfl ?_
    refine lR_iln hC 28 3 d_law_28 rfl rfl ?_
    refine lR_sld hC 29 (vp_in_nI (by omega) (by omega)) d_law_29 ?_
    refine lR_bp hC 30 (63 : Int32) d_law_30 (by decide) ?_
    refine lR_iand hC 32 d_law_32 ?_
    refine lR_tsw hC 33 220 (0 : Int32) d_law_33 (by decide) (by decide) rfl (by decide) (law_0 hC hL h7 hR next) (fun hs0 => ?_)
    refine lR_tsw hC 33 233 (1 : Int32) d_law_33 (by decide) (by decide) rfl (by decide) (law_1 hC hL h7 hR next) (fun hs1 => ?_)
    refine lR_tsw hC 33 266 (2 : Int32) d_law_33 (by decide) (by decide) rfl (by decide) (law_2 hC hL h7 hR next) (fun hs2 => ?_)
    refine lR_tsw hC 33 319 (3 : Int32) d_law_33 (by decide) (by decide) rfl (by decide) (law_3 hC hL h7 hR next) (fun hs3 => ?_)
    refine lR_tsw hC 33 342 (4 : Int32) d_law_33 (by decide) (by decide) rfl (by decide) (law_4 hC hL h7 hR next) (fun hs4 => ?_)
    refine lR_tsw hC 33 375 (5 : Int32) d_law_33 (by decide) (by decide) rfl (by decide) (law_5 hC hL h7 hR next) (fun hs5 => ?_)
    refine lR_tsw hC 33 398 (6 : Int32) d_law_33 (by decide) (by decide) rfl (by decide) (law_6 hC hL h7 hR next) (fun hs6 => ?_)
    refine lR_tsw hC 33 411 (7 : Int32) d_law_33 (by decide) (by decide) rfl (by decide) (law_7 hC hL h7 hR next) (fun hs7 => ?_)
    refine lR_tsw hC 33 424 (8 : Int32) d_law_33 (by decide) (by decide) rfl (by decide) (law_8 hC hL h7 hR next) (fun hs8 => ?_)
    refine lR_tsw hC 33 447 (9 : Int32) d_law_33 (by decide) (by decide) rfl (by decide) (law_9 hC hL h7 hR next) (fun hs9 => ?_)
    refine lR_tsw hC 33 480 (10 : Int32) d_law_33 (by decide) (by decide) rfl (by decide) (law_10 hC hL h7 hR next) (fun hs10 => ?_)
    refine lR_tsw hC 33 503 (11 : Int32) d_law_33 (by decide) (by decide) rfl (by decide) (law_11 hC hL h7 hR next) (fun hs11 => ?_)
    refine lR_tsw hC 33 536 (12 : Int32) d_law_33 (by decide) (by decide) rfl (by decide) (law_12 hC hL h7 hR next) (fun hs12 => ?_)
    refine lR_tsw hC 33 549 (13 : Int32) d_law_33 (by decide) (by decide) rfl (by decide) (law_13 hC hL h7 hR next) (fun hs13 => ?_)
    refine lR_tsw hC 33 582 (14 : Int32) d_law_33 (by decide) (by decide) rfl (by decide) (law_14 hC hL h7 hR next) (fun hs14 => ?_)
    refine lR_tsw hC 33 615 (15 : Int32) d_law_33 (by decide) (by decide) rfl (by decide) (law_15 hC hL h7 hR next) (fun hs15 => ?_)
    refine lR_tsw hC 33 648 (16 : Int32) d_law_33 (by decide) (by decide) rfl (by decide) (law_16 hC hL h7 hR next) (fun hs16 => ?_)
    refine lR_tsw hC 33 681 (17 : Int32) d_law_33 (by decide) (by decide) rfl (by decide) (law_17 hC hL h7 hR next) (fun hs17 => ?_)
    refine lR_tsw hC 33 724 (18 : Int32) d_law_33 (by decide) (by decide) rfl (by decide) (law_18 hC hL h7 hR next) (fun hs18 => ?_)
    refine lR_tsw hC 33 767 (19 : Int32) d_law_33 (by decide) (by decide) rfl (by decide) (law_19 hC hL h7 hR next) (fun hs19 => ?_)
    refine lR_tsw hC 33 810 (20 : Int32) d_law_33 (by decide) (by decide) rfl (by decide) (law_20 hC hL h7 hR next) (fun hs20 => ?_)
    refine lR_tsw hC 33 853 (21 : Int32) d_law_33 (by decide) (by decide) rfl (by decide) (law_21 hC hL h7 hR next) (fun hs21 => ?_)
    refine lR_tsw hC 33 886 (22 : Int32) d_law_33 (by decide) (by decide) rfl (by decide) (law_22 hC hL h7 hR next) (fun hs22 => ?_)
    refine lR_tsw hC 33 919 (23 : Int32) d_law_33 (by decide) (by decide) rfl (by decide) (law_23 hC hL h7 hR next) (fun hs23 => ?_)
    refine lR_tsw hC 33 932 (24 : Int32) d_law_33 (by decide) (by decide) rfl (by decide) (law_24 hC hL h7 hR next) (fun hs24 => ?_)
    refine lR_tsw hC 33 965 (25 : Int32) d_law_33 (by decide) (by decide) rfl (by decide) (law_25 hC hL h7 hR next) (fun hs25 => ?_)
    refine lR_tsw hC 33 978 (26 : Int32) d_law_33 (by decide) (by decide) rfl (by decide) (law_26 hC hL h7 hR next) (fun hs26 => ?_)
    refine lR_tsw hC 33 991 (27 : Int32) d_law_33 (by decide) (by decide) rfl (by decide) (law_27 hC hL h7 hR next) (fun hs27 => ?_)
    refine lR_tsw hC 33 1054 (28 : Int32) d_law_33 (by decide) (by decide) rfl (by decide) (law_28 hC hL h7 hR next) (fun hs28 => ?_)
    refine lR_tsw hC 33 1129 (29 : Int32) d_law_33 (by decide) (by decide) rfl (by decide) (law_29 hC hL h7 hR next) (fun hs29 => ?_)
    refine lR_tsw hC 33 1152 (30 : Int32) d_law_33 (by decide) (by decide) rfl (by decide) (law_30 hC hL h7 hR next) (fun hs30 => ?_)
    refine lR_tsw hC 33 1175 (31 : Int32) d_law_33 (by decide) (by decide) rfl (by decide) (law_31 hC hL h7 hR next) (fun hs31 => ?_)
    refine lR_tsw hC 33 1198 (32 : Int32) d_law_33 (by decide) (by decide) rfl (by decide) (law_32 hC hL h7 hR next) (fun hs32 => ?_)
    refine lR_tsw hC 33 1221 (33 : Int32) d_law_33 (by decide) (by decide) rfl (by decide) (law_33 hC hL h7 hR next) (fun hs33 => ?_)
    refine lR_tsw hC 33 1244 (34 : Int32) d_law_33 (by decide) (by decide) rfl (by decide) (law_34 hC hL h7 hR next) (fun hs34 => ?_)
    refine lR_tsw hC 33 1277 (35 : Int32) d_law_33 (by decide) (by decide) rfl (by decide) (law_35 hC hL h7 hR next) (fun hs35 => ?_)
    refine lR_tsw hC 33 1320 (36 : Int32) d_law_33 (by decide) (by decide) rfl (by decide) (law_36 hC hL h7 hR next) (fun hs36 => ?_)
    refine lR_tsw hC 33 1353 (37 : Int32) d_law_33 (by decide) (by decide) rfl (by decide) (law_37 hC hL h7 hR next) (fun hs37 => ?_)
    refine lR_tsw hC 33 1377 (38 : Int32) d_law_33 (by decide) (by decide) rfl (by decide) (law_38 hC hL h7 hR next) (fun hs38 => ?_)
    refine lR_tsw hC 33 1400 (39 : Int32) d_law_33 (by decide) (by decide) rfl (by decide) (law_39 hC hL h7 hR next) (fun hs39 => ?_)
    refine lR_tsw hC 33 1423 (40 : Int32) d_law_33 (by decide) (by decide) rfl (by decide) (law_40 hC hL h7 hR next) (fun hs40 => ?_)
    refine lR_tsw hC 33 1446 (41 : Int32) d_law_33 (by decide) (by decide) rfl (by decide) (law_41 hC hL h7 hR next) (fun hs41 => ?_)
    refine lR_tsw hC 33 1469 (42 : Int32) d_law_33 (by decide) (by decide) rfl (by decide) (law_42 hC hL h7 hR next) (fun hs42 => ?_)
    refine lR_tso hC 33 1483 d_law_33 (by have e0 := lv_neT hs0 (a := 0) rfl; have e1 := lv_neT hs1 (a := 1) rfl; have e2 := lv_neT hs2 (a := 2) rfl; have e3 := lv_neT hs3 (a := 3) rfl; have e4 := lv_neT hs4 (a := 4) rfl; have e5 := lv_neT hs5 (a := 5) rfl; have e6 := lv_neT hs6 (a := 6) rfl; have e7 := lv_neT hs7 (a := 7) rfl; have e8 := lv_neT hs8 (a := 8) rfl; have e9 := lv_neT hs9 (a := 9) rfl; have e10 := lv_neT hs10 (a := 10) rfl; have e11 := lv_neT hs11 (a := 11) rfl; have e12 := lv_neT hs12 (a := 12) rfl; have e13 := lv_neT hs13 (a := 13) rfl; have e14 := lv_neT hs14 (a := 14) rfl; have e15 := lv_neT hs15 (a := 15) rfl; have e16 := lv_neT hs16 (a := 16) rfl; have e17 := lv_neT hs17 (a := 17) rfl; have e18 := lv_neT hs18 (a := 18) rfl; have e19 := lv_neT hs19 (a := 19) rfl; have e20 := lv_neT hs20 (a := 20) rfl; have e21 := lv_neT hs21 (a := 21) rfl; have e22 := lv_neT hs22 (a := 22) rfl; have e23 := lv_neT hs23 (a := 23) rfl; have e24 := lv_neT hs24 (a := 24) rfl; have e25 := lv_neT hs25 (a := 25) rfl; have e26 := lv_neT hs26 (a := 26) rfl; have e27 := lv_neT hs27 (a := 27) rfl; have e28 := lv_neT hs28 (a := 28) rfl; have e29 := lv_neT hs29 (a := 29) rfl; have e30 := lv_neT hs30 (a := 30) rfl; have e31 := lv_neT hs31 (a := 31) rfl; have e32 := lv_neT hs32 (a := 32) rfl; have e33 := lv_neT hs33 (a := 33) rfl; have e34 := lv_neT hs34 (a := 34) rfl; have e35 := lv_neT hs35 (a := 35) rfl; have e36 := lv_neT hs36 (a := 36) rfl; have e37 := lv_neT hs37 (a := 37) rfl; have e38 := lv_neT hs38 (a := 38) rfl; have e39 := lv_neT hs39 (a := 39) rfl; have e40 := lv_neT hs40 (a := 40) rfl; have e41 := lv_neT hs41 (a := 41) rfl; have e42 := lv_neT hs42 (a := 42) rfl; omega) (by decide) ?_
    exact next _ _ hR
end LW
