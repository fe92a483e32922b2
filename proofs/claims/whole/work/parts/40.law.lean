set_option maxHeartbeats 4000000 in
set_option maxRecDepth 100000 in
theorem law_case0 {X : Cx} (F : FX X code RL 4 ret SL 9) {b L : Nat} {xs : Nat → Int32} (hL : L ≤ 2147483648) (hX : LX X b L xs) {i : Int} (C : GG) (M : LT) (hR : Rel C M) (e1 : w32 (i + 1) = i + 1) (e2 : w32 (i + 2) = i + 2) (e3 : w32 (i + 3) = i + 3) (g1 : gd (i + 1) (L : Int)) (g2 : gd (i + 2) (L : Int)) (g3 : gd (i + 3) (L : Int)) (hN : ∀ (C : GG) (M : LT), Rel C M → J X 1492 [(0, .ref b), (1, .ref (xad X (0, 0, 0))), (2, .ref (xad X (4, 0, 0))), (3, iv i)] [] (gs C 4 0 M)) : J X 244 [(0, .ref b), (1, .ref (xad X (0, 0, 0))), (2, .ref (xad X (4, 0, 0))), (3, iv i)] [] (gs C 4 0 M) := by
  obtain ⟨r, C', M', o1, o2, hR'⟩ := op_feed C M hR (sc xs (i + 1)) (rg_i32 _)
  refine jr_aload_n (pc := 244) F 1 dL_law_244 rfl rfl ?_
  refine jr_aload_n (pc := 245) F 0 dL_law_245 rfl rfl ?_
  refine jr_iload_n (pc := 246) F 3 dL_law_246 rfl rfl ?_
  refine jr_iconst (pc := 247) F dL_law_247 ?_
  refine jr_iadd (pc := 248) F dL_law_248 ?_
  rw [e1]
  refine jr_sld (pc := 249) F hX g1 hL dL_law_249 ?_
  refine jr_callV (pc := 250) (st := []) F [iv (sc xs (i + 1))] (snd_X4_feed (M := M) (rg_i32 _) (Q := fun z => z = (r, C')) ⟨_, o1, rfl⟩) rfl ck_L_13 rfl m0_0 rfl rfl rfl (by decide) (Nat.le_of_ble_eq_true rfl) dL_law_250 rfl (fun v g' hq => ?_)
  obtain ⟨x, L1, rfl, r1, eg, hz⟩ := hq
  obtain ⟨rfl, rfl⟩ := Prod.mk.inj hz
  refine J_eq eg ?_
  show J X 253 [(0, .ref b), (1, .ref (xad X (0, 0, 0))), (2, .ref (xad X (4, 0, 0))), (3, iv i)] [iv x] (gs L1 4 0 M)
  refine jr_aload_n (pc := 253) F 2 dL_law_253 rfl rfl ?_
  refine jr_aload_n (pc := 254) F 0 dL_law_254 rfl rfl ?_
  refine jr_iload_n (pc := 255) F 3 dL_law_255 rfl rfl ?_
  refine jr_iconst (pc := 256) F dL_law_256 ?_
  refine jr_iadd (pc := 257) F dL_law_257 ?_
  rw [e1]
  refine jr_sld (pc := 258) F hX g1 hL dL_law_258 ?_
  refine jr_callV (pc := 259) (st := [iv x]) F [iv (sc xs (i + 1))] (snd_X5_feed (g0 := L1) (rg_i32 _) (Q := fun z => z = (x, M')) ⟨_, o2, rfl⟩) rfl ck_L_17 rfl m4_0 rfl rfl rfl (by decide) (Nat.le_of_ble_eq_true rfl) dL_law_259 rfl (fun v g' hq => ?_)
  obtain ⟨y, L2, rfl, r2, eg2, hz2⟩ := hq
  obtain ⟨rfl, rfl⟩ := Prod.mk.inj hz2
  refine J_eq eg2 ?_
  show J X 262 [(0, .ref b), (1, .ref (xad X (0, 0, 0))), (2, .ref (xad X (4, 0, 0))), (3, iv i)] [iv y, iv y] (gs L1 4 0 L2)
  refine jr_icmp_eq (pc := 262) (tgt := 1492) F r1 r1 dL_law_262 (by decide) (fun _ => ?_) (fun q => absurd rfl q)
  exact hN _ _ hR'
set_option maxHeartbeats 4000000 in
set_option maxRecDepth 100000 in
theorem law_case1 {X : Cx} (F : FX X code RL 4 ret SL 9) {b L : Nat} {xs : Nat → Int32} (hL : L ≤ 2147483648) (hX : LX X b L xs) {i : Int} (C : GG) (M : LT) (hR : Rel C M) (e1 : w32 (i + 1) = i + 1) (e2 : w32 (i + 2) = i + 2) (e3 : w32 (i + 3) = i + 3) (g1 : gd (i + 1) (L : Int)) (g2 : gd (i + 2) (L : Int)) (g3 : gd (i + 3) (L : Int)) (hN : ∀ (C : GG) (M : LT), Rel C M → J X 1492 [(0, .ref b), (1, .ref (xad X (0, 0, 0))), (2, .ref (xad X (4, 0, 0))), (3, iv i)] [] (gs C 4 0 M)) : J X 267 [(0, .ref b), (1, .ref (xad X (0, 0, 0))), (2, .ref (xad X (4, 0, 0))), (3, iv i)] [] (gs C 4 0 M) := by
  obtain ⟨r, C', M', o1, o2, hR'⟩ := op_line C M hR  
  refine jr_aload_n (pc := 267) F 1 dL_law_267 rfl rfl ?_
  refine jr_callV (pc := 268) (st := []) F [] (snd_X4_line (M := M)  (Q := fun z => z = (r, C')) ⟨_, o1, rfl⟩) rfl ck_L_18 rfl m0_0 rfl rfl rfl (by decide) (Nat.le_of_ble_eq_true rfl) dL_law_268 rfl (fun v g' hq => ?_)
  obtain ⟨x, L1, rfl, r1, eg, hz⟩ := hq
  obtain ⟨rfl, rfl⟩ := Prod.mk.inj hz
  refine J_eq eg ?_
  show J X 271 [(0, .ref b), (1, .ref (xad X (0, 0, 0))), (2, .ref (xad X (4, 0, 0))), (3, iv i)] [iv x] (gs L1 4 0 M)
  refine jr_aload_n (pc := 271) F 2 dL_law_271 rfl rfl ?_
  refine jr_callV (pc := 272) (st := [iv x]) F [] (snd_X5_line (g0 := L1)  (Q := fun z => z = (x, M')) ⟨_, o2, rfl⟩) rfl ck_L_22 rfl m4_0 rfl rfl rfl (by decide) (Nat.le_of_ble_eq_true rfl) dL_law_272 rfl (fun v g' hq => ?_)
  obtain ⟨y, L2, rfl, r2, eg2, hz2⟩ := hq
  obtain ⟨rfl, rfl⟩ := Prod.mk.inj hz2
  refine J_eq eg2 ?_
  show J X 275 [(0, .ref b), (1, .ref (xad X (0, 0, 0))), (2, .ref (xad X (4, 0, 0))), (3, iv i)] [iv y, iv y] (gs L1 4 0 L2)
  refine jr_icmp_eq (pc := 275) (tgt := 1492) F r1 r1 dL_law_275 (by decide) (fun _ => ?_) (fun q => absurd rfl q)
  exact hN _ _ hR'
set_option maxHeartbeats 4000000 in
set_option maxRecDepth 100000 in
theorem law_case2 {X : Cx} (F : FX X code RL 4 ret SL 9) {b L : Nat} {xs : Nat → Int32} (hL : L ≤ 2147483648) (hX : LX X b L xs) {i : Int} (C : GG) (M : LT) (hR : Rel C M) (e1 : w32 (i + 1) = i + 1) (e2 : w32 (i + 2) = i + 2) (e3 : w32 (i + 3) = i + 3) (g1 : gd (i + 1) (L : Int)) (g2 : gd (i + 2) (L : Int)) (g3 : gd (i + 3) (L : Int)) (hN : ∀ (C : GG) (M : LT), Rel C M → J X 1492 [(0, .ref b), (1, .ref (xad X (0, 0, 0))), (2, .ref (xad X (4, 0, 0))), (3, iv i)] [] (gs C 4 0 M)) : J X 280 [(0, .ref b), (1, .ref (xad X (0, 0, 0))), (2, .ref (xad X (4, 0, 0))), (3, iv i)] [] (gs C 4 0 M) := by
  obtain ⟨r, C', M', o1, o2, hR'⟩ := op_yard C M hR (sc xs (i + 1)) (sc xs (i + 2)) (rg_i32 _) (rg_i32 _)
  refine jr_aload_n (pc := 280) F 1 dL_law_280 rfl rfl ?_
  refine jr_aload_n (pc := 281) F 0 dL_law_281 rfl rfl ?_
  refine jr_iload_n (pc := 282) F 3 dL_law_282 rfl rfl ?_
  refine jr_iconst (pc := 283) F dL_law_283 ?_
  refine jr_iadd (pc := 284) F dL_law_284 ?_
  rw [e1]
  refine jr_sld (pc := 285) F hX g1 hL dL_law_285 ?_
  refine jr_aload_n (pc := 286) F 0 dL_law_286 rfl rfl ?_
  refine jr_iload_n (pc := 287) F 3 dL_law_287 rfl rfl ?_
  refine jr_iconst (pc := 288) F dL_law_288 ?_
  refine jr_iadd (pc := 289) F dL_law_289 ?_
  rw [e2]
  refine jr_sld (pc := 290) F hX g2 hL dL_law_290 ?_
  refine jr_callV (pc := 291) (st := []) F [iv (sc xs (i + 1)), iv (sc xs (i + 2))] (snd_X4_yard (M := M) (rg_i32 _) (rg_i32 _) (Q := fun z => z = (r, C')) ⟨_, o1, rfl⟩) rfl ck_L_23 rfl m0_0 rfl rfl rfl (by decide) (Nat.le_of_ble_eq_true rfl) dL_law_291 rfl (fun v g' hq => ?_)
  obtain ⟨x, L1, rfl, r1, eg, hz⟩ := hq
  obtain ⟨rfl, rfl⟩ := Prod.mk.inj hz
  refine J_eq eg ?_
  show J X 294 [(0, .ref b), (1, .ref (xad X (0, 0, 0))), (2, .ref (xad X (4, 0, 0))), (3, iv i)] [iv x] (gs L1 4 0 M)
  refine jr_aload_n (pc := 294) F 2 dL_law_294 rfl rfl ?_
  refine jr_aload_n (pc := 295) F 0 dL_law_295 rfl rfl ?_
  refine jr_iload_n (pc := 296) F 3 dL_law_296 rfl rfl ?_
  refine jr_iconst (pc := 297) F dL_law_297 ?_
  refine jr_iadd (pc := 298) F dL_law_298 ?_
  rw [e1]
  refine jr_sld (pc := 299) F hX g1 hL dL_law_299 ?_
  refine jr_aload_n (pc := 300) F 0 dL_law_300 rfl rfl ?_
  refine jr_iload_n (pc := 301) F 3 dL_law_301 rfl rfl ?_
  refine jr_iconst (pc := 302) F dL_law_302 ?_
  refine jr_iadd (pc := 303) F dL_law_303 ?_
  rw [e2]
  refine jr_sld (pc := 304) F hX g2 hL dL_law_304 ?_
  refine jr_callV (pc := 305) (st := [iv x]) F [iv (sc xs (i + 1)), iv (sc xs (i + 2))] (snd_X5_yard (g0 := L1) (rg_i32 _) (rg_i32 _) (Q := fun z => z = (x, M')) ⟨_, o2, rfl⟩) rfl ck_L_27 rfl m4_0 rfl rfl rfl (by decide) (Nat.le_of_ble_eq_true rfl) dL_law_305 rfl (fun v g' hq => ?_)
  obtain ⟨y, L2, rfl, r2, eg2, hz2⟩ := hq
  obtain ⟨rfl, rfl⟩ := Prod.mk.inj hz2
  refine J_eq eg2 ?_
  show J X 308 [(0, .ref b), (1, .ref (xad X (0, 0, 0))), (2, .ref (xad X (4, 0, 0))), (3, iv i)] [iv y, iv y] (gs L1 4 0 L2)
  refine jr_icmp_eq (pc := 308) (tgt := 1492) F r1 r1 dL_law_308 (by decide) (fun _ => ?_) (fun q => absurd rfl q)
  exact hN _ _ hR'
set_option maxHeartbeats 4000000 in
set_option maxRecDepth 100000 in
theorem law_case3 {X : Cx} (F : FX X code RL 4 ret SL 9) {b L : Nat} {xs : Nat → Int32} (hL : L ≤ 2147483648) (hX : LX X b L xs) {i : Int} (C : GG) (M : LT) (hR : Rel C M) (e1 : w32 (i + 1) = i + 1) (e2 : w32 (i + 2) = i + 2) (e3 : w32 (i + 3) = i + 3) (g1 : gd (i + 1) (L : Int)) (g2 : gd (i + 2) (L : Int)) (g3 : gd (i + 3) (L : Int)) (hN : ∀ (C : GG) (M : LT), Rel C M → J X 1492 [(0, .ref b), (1, .ref (xad X (0, 0, 0))), (2, .ref (xad X (4, 0, 0))), (3, iv i)] [] (gs C 4 0 M)) : J X 313 [(0, .ref b), (1, .ref (xad X (0, 0, 0))), (2, .ref (xad X (4, 0, 0))), (3, iv i)] [] (gs C 4 0 M) := by
  obtain ⟨r, C', M', o1, o2, hR'⟩ := op_turn C M hR (sc xs (i + 1)) (sc xs (i + 2)) (sc xs (i + 3)) (rg_i32 _) (rg_i32 _) (rg_i32 _)
  refine jr_aload_n (pc := 313) F 1 dL_law_313 rfl rfl ?_
  refine jr_aload_n (pc := 314) F 0 dL_law_314 rfl rfl ?_
  refine jr_iload_n (pc := 315) F 3 dL_law_315 rfl rfl ?_
  refine jr_iconst (pc := 316) F dL_law_316 ?_
  refine jr_iadd (pc := 317) F dL_law_317 ?_
  rw [e1]
  refine jr_sld (pc := 318) F hX g1 hL dL_law_318 ?_
  refine jr_aload_n (pc := 319) F 0 dL_law_319 rfl rfl ?_
  refine jr_iload_n (pc := 320) F 3 dL_law_320 rfl rfl ?_
  refine jr_iconst (pc := 321) F dL_law_321 ?_
  refine jr_iadd (pc := 322) F dL_law_322 ?_
  rw [e2]
  refine jr_sld (pc := 323) F hX g2 hL dL_law_323 ?_
  refine jr_aload_n (pc := 324) F 0 dL_law_324 rfl rfl ?_
  refine jr_iload_n (pc := 325) F 3 dL_law_325 rfl rfl ?_
  refine jr_iconst (pc := 326) F dL_law_326 ?_
  refine jr_iadd (pc := 327) F dL_law_327 ?_
  rw [e3]
  refine jr_sld (pc := 328) F hX g3 hL dL_law_328 ?_
  refine jr_callV (pc := 329) (st := []) F [iv (sc xs (i + 1)), iv (sc xs (i + 2)), iv (sc xs (i + 3))] (snd_X4_turn (M := M) (rg_i32 _) (rg_i32 _) (rg_i32 _) (Q := fun z => z = (r, C')) ⟨_, o1, rfl⟩) rfl ck_L_28 rfl m0_0 rfl rfl rfl (by decide) (Nat.le_of_ble_eq_true rfl) dL_law_329 rfl (fun v g' hq => ?_)
  obtain ⟨x, L1, rfl, r1, eg, hz⟩ := hq
  obtain ⟨rfl, rfl⟩ := Prod.mk.inj hz
  refine J_eq eg ?_
  show J X 332 [(0, .ref b), (1, .ref (xad X (0, 0, 0))), (2, .ref (xad X (4, 0, 0))), (3, iv i)] [iv x] (gs L1 4 0 M)
  refine jr_aload_n (pc := 332) F 2 dL_law_332 rfl rfl ?_
  refine jr_aload_n (pc := 333) F 0 dL_law_333 rfl rfl ?_
  refine jr_iload_n (pc := 334) F 3 dL_law_334 rfl rfl ?_
  refine jr_iconst (pc := 335) F dL_law_335 ?_
  refine jr_iadd (pc := 336) F dL_law_336 ?_
  rw [e1]
  refine jr_sld (pc := 337) F hX g1 hL dL_law_337 ?_
  refine jr_aload_n (pc := 338) F 0 dL_law_338 rfl rfl ?_
  refine jr_iload_n (pc := 339) F 3 dL_law_339 rfl rfl ?_
  refine jr_iconst (pc := 340) F dL_law_340 ?_
  refine jr_iadd (pc := 341) F dL_law_341 ?_
  rw [e2]
  refine jr_sld (pc := 342) F hX g2 hL dL_law_342 ?_
  refine jr_aload_n (pc := 343) F 0 dL_law_343 rfl rfl ?_
  refine jr_iload_n (pc := 344) F 3 dL_law_344 rfl rfl ?_
  refine jr_iconst (pc := 345) F dL_law_345 ?_
  refine jr_iadd (pc := 346) F dL_law_346 ?_
  rw [e3]
  refine jr_sld (pc := 347) F hX g3 hL dL_law_347 ?_
  refine jr_callV (pc := 348) (st := [iv x]) F [iv (sc xs (i + 1)), iv (sc xs (i + 2)), iv (sc xs (i + 3))] (snd_X5_turn (g0 := L1) (rg_i32 _) (rg_i32 _) (rg_i32 _) (Q := fun z => z = (x, M')) ⟨_, o2, rfl⟩) rfl ck_L_32 rfl m4_0 rfl rfl rfl (by decide) (Nat.le_of_ble_eq_true rfl) dL_law_348 rfl (fun v g' hq => ?_)
  obtain ⟨y, L2, rfl, r2, eg2, hz2⟩ := hq
  obtain ⟨rfl, rfl⟩ := Prod.mk.inj hz2
  refine J_eq eg2 ?_
  show J X 351 [(0, .ref b), (1, .ref (xad X (0, 0, 0))), (2, .ref (xad X (4, 0, 0))), (3, iv i)] [iv y, iv y] (gs L1 4 0 L2)
  refine jr_icmp_eq (pc := 351) (tgt := 1492) F r1 r1 dL_law_351 (by decide) (fun _ => ?_) (fun q => absurd rfl q)
  exact hN _ _ hR'
set_option maxHeartbeats 4000000 in
set_option maxRecDepth 100000 in
theorem law_case4 {X : Cx} (F : FX X code RL 4 ret SL 9) {b L : Nat} {xs : Nat → Int32} (hL : L ≤ 2147483648) (hX : LX X b L xs) {i : Int} (C : GG) (M : LT) (hR : Rel C M) (e1 : w32 (i + 1) = i + 1) (e2 : w32 (i + 2) = i + 2) (e3 : w32 (i + 3) = i + 3) (g1 : gd (i + 1) (L : Int)) (g2 : gd (i + 2) (L : Int)) (g3 : gd (i + 3) (L : Int)) (hN : ∀ (C : GG) (M : LT), Rel C M → J X 1492 [(0, .ref b), (1, .ref (xad X (0, 0, 0))), (2, .ref (xad X (4, 0, 0))), (3, iv i)] [] (gs C 4 0 M)) : J X 356 [(0, .ref b), (1, .ref (xad X (0, 0, 0))), (2, .ref (xad X (4, 0, 0))), (3, iv i)] [] (gs C 4 0 M) := by
  obtain ⟨r, C', M', o1, o2, hR'⟩ := op_frost C M hR (sc xs (i + 1)) (sc xs (i + 2)) (rg_i32 _) (rg_i32 _)
  refine jr_aload_n (pc := 356) F 1 dL_law_356 rfl rfl ?_
  refine jr_aload_n (pc := 357) F 0 dL_law_357 rfl rfl ?_
  refine jr_iload_n (pc := 358) F 3 dL_law_358 rfl rfl ?_
  refine jr_iconst (pc := 359) F dL_law_359 ?_
  refine jr_iadd (pc := 360) F dL_law_360 ?_
  rw [e1]
  refine jr_sld (pc := 361) F hX g1 hL dL_law_361 ?_
  refine jr_aload_n (pc := 362) F 0 dL_law_362 rfl rfl ?_
  refine jr_iload_n (pc := 363) F 3 dL_law_363 rfl rfl ?_
  refine jr_iconst (pc := 364) F dL_law_364 ?_
  refine jr_iadd (pc := 365) F dL_law_365 ?_
  rw [e2]
  refine jr_sld (pc := 366) F hX g2 hL dL_law_366 ?_
  refine jr_callV (pc := 367) (st := []) F [iv (sc xs (i + 1)), iv (sc xs (i + 2))] (snd_X4_frost (M := M) (rg_i32 _) (rg_i32 _) (Q := fun z => z = (r, C')) ⟨_, o1, rfl⟩) rfl ck_L_33 rfl m0_0 rfl rfl rfl (by decide) (Nat.le_of_ble_eq_true rfl) dL_law_367 rfl (fun v g' hq => ?_)
  obtain ⟨x, L1, rfl, r1, eg, hz⟩ := hq
  obtain ⟨rfl, rfl⟩ := Prod.mk.inj hz
  refine J_eq eg ?_
  show J X 370 [(0, .ref b), (1, .ref (xad X (0, 0, 0))), (2, .ref (xad X (4, 0, 0))), (3, iv i)] [iv x] (gs L1 4 0 M)
  refine jr_aload_n (pc := 370) F 2 dL_law_370 rfl rfl ?_
  refine jr_aload_n (pc := 371) F 0 dL_law_371 rfl rfl ?_
  refine jr_iload_n (pc := 372) F 3 dL_law_372 rfl rfl ?_
  refine jr_iconst (pc := 373) F dL_law_373 ?_
  refine jr_iadd (pc := 374) F dL_law_374 ?_
  rw [e1]
  refine jr_sld (pc := 375) F hX g1 hL dL_law_375 ?_
  refine jr_aload_n (pc := 376) F 0 dL_law_376 rfl rfl ?_
  refine jr_iload_n (pc := 377) F 3 dL_law_377 rfl rfl ?_
  refine jr_iconst (pc := 378) F dL_law_378 ?_
  refine jr_iadd (pc := 379) F dL_law_379 ?_
  rw [e2]
  refine jr_sld (pc := 380) F hX g2 hL dL_law_380 ?_
  refine jr_callV (pc := 381) (st := [iv x]) F [iv (sc xs (i + 1)), iv (sc xs (i + 2))] (snd_X5_frost (g0 := L1) (rg_i32 _) (rg_i32 _) (Q := fun z => z = (x, M')) ⟨_, o2, rfl⟩) rfl ck_L_36 rfl m4_0 rfl rfl rfl (by decide) (Nat.le_of_ble_eq_true rfl) dL_law_381 rfl (fun v g' hq => ?_)
  obtain ⟨y, L2, rfl, r2, eg2, hz2⟩ := hq
  obtain ⟨rfl, rfl⟩ := Prod.mk.inj hz2
  refine J_eq eg2 ?_
  show J X 384 [(0, .ref b), (1, .ref (xad X (0, 0, 0))), (2, .ref (xad X (4, 0, 0))), (3, iv i)] [iv y, iv y] (gs L1 4 0 L2)
  refine jr_icmp_eq (pc := 384) (tgt := 1492) F r1 r1 dL_law_384 (by decide) (fun _ => ?_) (fun q => absurd rfl q)
  exact hN _ _ hR'
set_option maxHeartbeats 4000000 in
set_option maxRecDepth 100000 in
theorem law_case5 {X : Cx} (F : FX X code RL 4 ret SL 9) {b L : Nat} {xs : Nat → Int32} (hL : L ≤ 2147483648) (hX : LX X b L xs) {i : Int} (C : GG) (M : LT) (hR : Rel C M) (e1 : w32 (i + 1) = i + 1) (e2 : w32 (i + 2) = i + 2) (e3 : w32 (i + 3) = i + 3) (g1 : gd (i + 1) (L : Int)) (g2 : gd (i + 2) (L : Int)) (g3 : gd (i + 3) (L : Int)) (hN : ∀ (C : GG) (M : LT), Rel C M → J X 1492 [(0, .ref b), (1, .ref (xad X (0, 0, 0))), (2, .ref (xad X (4, 0, 0))), (3, iv i)] [] (gs C 4 0 M)) : J X 389 [(0, .ref b), (1, .ref (xad X (0, 0, 0))), (2, .ref (xad X (4, 0, 0))), (3, iv i)] [] (gs C 4 0 M) := by
  obtain ⟨r, C', M', o1, o2, hR'⟩ := op_weather C M hR (sc xs (i + 1)) (sc xs (i + 2)) (rg_i32 _) (rg_i32 _)
  refine jr_aload_n (pc := 389) F 1 dL_law_389 rfl rfl ?_
  refine jr_aload_n (pc := 390) F 0 dL_law_390 rfl rfl ?_
  refine jr_iload_n (pc := 391) F 3 dL_law_391 rfl rfl ?_
  refine jr_iconst (pc := 392) F dL_law_392 ?_
  refine jr_iadd (pc := 393) F dL_law_393 ?_
  rw [e1]
  refine jr_sld (pc := 394) F hX g1 hL dL_law_394 ?_
  refine jr_aload_n (pc := 395) F 0 dL_law_395 rfl rfl ?_
  refine jr_iload_n (pc := 396) F 3 dL_law_396 rfl rfl ?_
  refine jr_iconst (pc := 397) F dL_law_397 ?_
  refine jr_iadd (pc := 398) F dL_law_398 ?_
  rw [e2]
  refine jr_sld (pc := 399) F hX g2 hL dL_law_399 ?_
  refine jr_callV (pc := 400) (st := []) F [iv (sc xs (i + 1)), iv (sc xs (i + 2))] (snd_X4_weather (M := M) (rg_i32 _) (rg_i32 _) (Q := fun z => z = (r, C')) ⟨_, o1, rfl⟩) rfl ck_L_37 rfl m0_0 rfl rfl rfl (by decide) (Nat.le_of_ble_eq_true rfl) dL_law_400 rfl (fun v g' hq => ?_)
  obtain ⟨x, L1, rfl, r1, eg, hz⟩ := hq
  obtain ⟨rfl, rfl⟩ := Prod.mk.inj hz
  refine J_eq eg ?_
  show J X 403 [(0, .ref b), (1, .ref (xad X (0, 0, 0))), (2, .ref (xad X (4, 0, 0))), (3, iv i)] [iv x] (gs L1 4 0 M)
  refine jr_aload_n (pc := 403) F 2 dL_law_403 rfl rfl ?_
  refine jr_aload_n (pc := 404) F 0 dL_law_404 rfl rfl ?_
  refine jr_iload_n (pc := 405) F 3 dL_law_405 rfl rfl ?_
  refine jr_iconst (pc := 406) F dL_law_406 ?_
  refine jr_iadd (pc := 407) F dL_law_407 ?_
  rw [e1]
  refine jr_sld (pc := 408) F hX g1 hL dL_law_408 ?_
  refine jr_aload_n (pc := 409) F 0 dL_law_409 rfl rfl ?_
  refine jr_iload_n (pc := 410) F 3 dL_law_410 rfl rfl ?_
  refine jr_iconst (pc := 411) F dL_law_411 ?_
  refine jr_iadd (pc := 412) F dL_law_412 ?_
  rw [e2]
  refine jr_sld (pc := 413) F hX g2 hL dL_law_413 ?_
  refine jr_callV (pc := 414) (st := [iv x]) F [iv (sc xs (i + 1)), iv (sc xs (i + 2))] (snd_X5_weather (g0 := L1) (rg_i32 _) (rg_i32 _) (Q := fun z => z = (x, M')) ⟨_, o2, rfl⟩) rfl ck_L_40 rfl m4_0 rfl rfl rfl (by decide) (Nat.le_of_ble_eq_true rfl) dL_law_414 rfl (fun v g' hq => ?_)
  obtain ⟨y, L2, rfl, r2, eg2, hz2⟩ := hq
  obtain ⟨rfl, rfl⟩ := Prod.mk.inj hz2
  refine J_eq eg2 ?_
  show J X 417 [(0, .ref b), (1, .ref (xad X (0, 0, 0))), (2, .ref (xad X (4, 0, 0))), (3, iv i)] [iv y, iv y] (gs L1 4 0 L2)
  refine jr_icmp_eq (pc := 417) (tgt := 1492) F r1 r1 dL_law_417 (by decide) (fun _ => ?_) (fun q => absurd rfl q)
  exact hN _ _ hR'
set_option maxHeartbeats 4000000 in
set_option maxRecDepth 100000 in
theorem law_case6 {X : Cx} (F : FX X code RL 4 ret SL 9) {b L : Nat} {xs : Nat → Int32} (hL : L ≤ 2147483648) (hX : LX X b L xs) {i : Int} (C : GG) (M : LT) (hR : Rel C M) (e1 : w32 (i + 1) = i + 1) (e2 : w32 (i + 2) = i + 2) (e3 : w32 (i + 3) = i + 3) (g1 : gd (i + 1) (L : Int)) (g2 : gd (i + 2) (L : Int)) (g3 : gd (i + 3) (L : Int)) (hN : ∀ (C : GG) (M : LT), Rel C M → J X 1492 [(0, .ref b), (1, .ref (xad X (0, 0, 0))), (2, .ref (xad X (4, 0, 0))), (3, iv i)] [] (gs C 4 0 M)) : J X 422 [(0, .ref b), (1, .ref (xad X (0, 0, 0))), (2, .ref (xad X (4, 0, 0))), (3, iv i)] [] (gs C 4 0 M) := by
  obtain ⟨r, C', M', o1, o2, hR'⟩ := op_many C M hR (sc xs (i + 1)) (rg_i32 _)
  refine jr_aload_n (pc := 422) F 1 dL_law_422 rfl rfl ?_
  refine jr_aload_n (pc := 423) F 0 dL_law_423 rfl rfl ?_
  refine jr_iload_n (pc := 424) F 3 dL_law_424 rfl rfl ?_
  refine jr_iconst (pc := 425) F dL_law_425 ?_
  refine jr_iadd (pc := 426) F dL_law_426 ?_
  rw [e1]
  refine jr_sld (pc := 427) F hX g1 hL dL_law_427 ?_
  refine jr_callV (pc := 428) (st := []) F [iv (sc xs (i + 1))] (snd_X4_many (M := M) (rg_i32 _) (Q := fun z => z = (r, C')) ⟨_, o1, rfl⟩) rfl ck_L_41 rfl m0_0 rfl rfl rfl (by decide) (Nat.le_of_ble_eq_true rfl) dL_law_428 rfl (fun v g' hq => ?_)
  obtain ⟨x, L1, rfl, r1, eg, hz⟩ := hq
  obtain ⟨rfl, rfl⟩ := Prod.mk.inj hz
  refine J_eq eg ?_
  show J X 431 [(0, .ref b), (1, .ref (xad X (0, 0, 0))), (2, .ref (xad X (4, 0, 0))), (3, iv i)] [iv x] (gs L1 4 0 M)
  refine jr_aload_n (pc := 431) F 2 dL_law_431 rfl rfl ?_
  refine jr_aload_n (pc := 432) F 0 dL_law_432 rfl rfl ?_
  refine jr_iload_n (pc := 433) F 3 dL_law_433 rfl rfl ?_
  refine jr_iconst (pc := 434) F dL_law_434 ?_
  refine jr_iadd (pc := 435) F dL_law_435 ?_
  rw [e1]
  refine jr_sld (pc := 436) F hX g1 hL dL_law_436 ?_
  refine jr_callV (pc := 437) (st := [iv x]) F [iv (sc xs (i + 1))] (snd_X5_many (g0 := L1) (rg_i32 _) (Q := fun z => z = (x, M')) ⟨_, o2, rfl⟩) rfl ck_L_44 rfl m4_0 rfl rfl rfl (by decide) (Nat.le_of_ble_eq_true rfl) dL_law_437 rfl (fun v g' hq => ?_)
  obtain ⟨y, L2, rfl, r2, eg2, hz2⟩ := hq
  obtain ⟨rfl, rfl⟩ := Prod.mk.inj hz2
  refine J_eq eg2 ?_
  show J X 440 [(0, .ref b), (1, .ref (xad X (0, 0, 0))), (2, .ref (xad X (4, 0, 0))), (3, iv i)] [iv y, iv y] (gs L1 4 0 L2)
  refine jr_icmp_eq (pc := 440) (tgt := 1492) F r1 r1 dL_law_440 (by decide) (fun _ => ?_) (fun q => absurd rfl q)
  exact hN _ _ hR'
set_option maxHeartbeats 4000000 in
set_option maxRecDepth 100000 in
theorem law_case7 {X : Cx} (F : FX X code RL 4 ret SL 9) {b L : Nat} {xs : Nat → Int32} (hL : L ≤ 2147483648) (hX : LX X b L xs) {i : Int} (C : GG) (M : LT) (hR : Rel C M) (e1 : w32 (i + 1) = i + 1) (e2 : w32 (i + 2) = i + 2) (e3 : w32 (i + 3) = i + 3) (g1 : gd (i + 1) (L : Int)) (g2 : gd (i + 2) (L : Int)) (g3 : gd (i + 3) (L : Int)) (hN : ∀ (C : GG) (M : LT), Rel C M → J X 1492 [(0, .ref b), (1, .ref (xad X (0, 0, 0))), (2, .ref (xad X (4, 0, 0))), (3, iv i)] [] (gs C 4 0 M)) : J X 445 [(0, .ref b), (1, .ref (xad X (0, 0, 0))), (2, .ref (xad X (4, 0, 0))), (3, iv i)] [] (gs C 4 0 M) := by
  obtain ⟨r, C', M', o1, o2, hR'⟩ := op_train C M hR (sc xs (i + 1)) (sc xs (i + 2)) (sc xs (i + 3)) (rg_i32 _) (rg_i32 _) (rg_i32 _)
  refine jr_aload_n (pc := 445) F 1 dL_law_445 rfl rfl ?_
  refine jr_aload_n (pc := 446) F 0 dL_law_446 rfl rfl ?_
  refine jr_iload_n (pc := 447) F 3 dL_law_447 rfl rfl ?_
  refine jr_iconst (pc := 448) F dL_law_448 ?_
  refine jr_iadd (pc := 449) F dL_law_449 ?_
  rw [e1]
  refine jr_sld (pc := 450) F hX g1 hL dL_law_450 ?_
  refine jr_aload_n (pc := 451) F 0 dL_law_451 rfl rfl ?_
  refine jr_iload_n (pc := 452) F 3 dL_law_452 rfl rfl ?_
  refine jr_iconst (pc := 453) F dL_law_453 ?_
  refine jr_iadd (pc := 454) F dL_law_454 ?_
  rw [e2]
  refine jr_sld (pc := 455) F hX g2 hL dL_law_455 ?_
  refine jr_aload_n (pc := 456) F 0 dL_law_456 rfl rfl ?_
  refine jr_iload_n (pc := 457) F 3 dL_law_457 rfl rfl ?_
  refine jr_iconst (pc := 458) F dL_law_458 ?_
  refine jr_iadd (pc := 459) F dL_law_459 ?_
  rw [e3]
  refine jr_sld (pc := 460) F hX g3 hL dL_law_460 ?_
  refine jr_callV (pc := 461) (st := []) F [iv (sc xs (i + 1)), iv (sc xs (i + 2)), iv (sc xs (i + 3))] (snd_X4_train (M := M) (rg_i32 _) (rg_i32 _) (rg_i32 _) (Q := fun z => z = (r, C')) ⟨_, o1, rfl⟩) rfl ck_L_45 rfl m0_0 rfl rfl rfl (by decide) (Nat.le_of_ble_eq_true rfl) dL_law_461 rfl (fun v g' hq => ?_)
  obtain ⟨x, L1, rfl, r1, eg, hz⟩ := hq
  obtain ⟨rfl, rfl⟩ := Prod.mk.inj hz
  refine J_eq eg ?_
  show J X 464 [(0, .ref b), (1, .ref (xad X (0, 0, 0))), (2, .ref (xad X (4, 0, 0))), (3, iv i)] [iv x] (gs L1 4 0 M)
  refine jr_aload_n (pc := 464) F 2 dL_law_464 rfl rfl ?_
  refine jr_aload_n (pc := 465) F 0 dL_law_465 rfl rfl ?_
  refine jr_iload_n (pc := 466) F 3 dL_law_466 rfl rfl ?_
  refine jr_iconst (pc := 467) F dL_law_467 ?_
  refine jr_iadd (pc := 468) F dL_law_468 ?_
  rw [e1]
  refine jr_sld (pc := 469) F hX g1 hL dL_law_469 ?_
  refine jr_aload_n (pc := 470) F 0 dL_law_470 rfl rfl ?_
  refine jr_iload_n (pc := 471) F 3 dL_law_471 rfl rfl ?_
  refine jr_iconst (pc := 472) F dL_law_472 ?_
  refine jr_iadd (pc := 473) F dL_law_473 ?_
  rw [e2]
  refine jr_sld (pc := 474) F hX g2 hL dL_law_474 ?_
  refine jr_aload_n (pc := 475) F 0 dL_law_475 rfl rfl ?_
  refine jr_iload_n (pc := 476) F 3 dL_law_476 rfl rfl ?_
  refine jr_iconst (pc := 477) F dL_law_477 ?_
  refine jr_iadd (pc := 478) F dL_law_478 ?_
  rw [e3]
  refine jr_sld (pc := 479) F hX g3 hL dL_law_479 ?_
  refine jr_callV (pc := 480) (st := [iv x]) F [iv (sc xs (i + 1)), iv (sc xs (i + 2)), iv (sc xs (i + 3))] (snd_X5_train (g0 := L1) (rg_i32 _) (rg_i32 _) (rg_i32 _) (Q := fun z => z = (x, M')) ⟨_, o2, rfl⟩) rfl ck_L_48 rfl m4_0 rfl rfl rfl (by decide) (Nat.le_of_ble_eq_true rfl) dL_law_480 rfl (fun v g' hq => ?_)
  obtain ⟨y, L2, rfl, r2, eg2, hz2⟩ := hq
  obtain ⟨rfl, rfl⟩ := Prod.mk.inj hz2
  refine J_eq eg2 ?_
  show J X 483 [(0, .ref b), (1, .ref (xad X (0, 0, 0))), (2, .ref (xad X (4, 0, 0))), (3, iv i)] [iv y, iv y] (gs L1 4 0 L2)
  refine jr_icmp_eq (pc := 483) (tgt := 1492) F r1 r1 dL_law_483 (by decide) (fun _ => ?_) (fun q => absurd rfl q)
  exact hN _ _ hR'
set_option maxHeartbeats 4000000 in
set_option maxRecDepth 100000 in
theorem law_case8 {X : Cx} (F : FX X code RL 4 ret SL 9) {b L : Nat} {xs : Nat → Int32} (hL : L ≤ 2147483648) (hX : LX X b L xs) {i : Int} (C : GG) (M : LT) (hR : Rel C M) (e1 : w32 (i + 1) = i + 1) (e2 : w32 (i + 2) = i + 2) (e3 : w32 (i + 3) = i + 3) (g1 : gd (i + 1) (L : Int)) (g2 : gd (i + 2) (L : Int)) (g3 : gd (i + 3) (L : Int)) (hN : ∀ (C : GG) (M : LT), Rel C M → J X 1492 [(0, .ref b), (1, .ref (xad X (0, 0, 0))), (2, .ref (xad X (4, 0, 0))), (3, iv i)] [] (gs C 4 0 M)) : J X 488 [(0, .ref b), (1, .ref (xad X (0, 0, 0))), (2, .ref (xad X (4, 0, 0))), (3, iv i)] [] (gs C 4 0 M) := by
  obtain ⟨r, C', M', o1, o2, hR'⟩ := op_told C M hR (sc xs (i + 1)) (sc xs (i + 2)) (rg_i32 _) (rg_i32 _)
  refine jr_aload_n (pc := 488) F 1 dL_law_488 rfl rfl ?_
  refine jr_aload_n (pc := 489) F 0 dL_law_489 rfl rfl ?_
  refine jr_iload_n (pc := 490) F 3 dL_law_490 rfl rfl ?_
  refine jr_iconst (pc := 491) F dL_law_491 ?_
  refine jr_iadd (pc := 492) F dL_law_492 ?_
  rw [e1]
  refine jr_sld (pc := 493) F hX g1 hL dL_law_493 ?_
  refine jr_aload_n (pc := 494) F 0 dL_law_494 rfl rfl ?_
  refine jr_iload_n (pc := 495) F 3 dL_law_495 rfl rfl ?_
  refine jr_iconst (pc := 496) F dL_law_496 ?_
  refine jr_iadd (pc := 497) F dL_law_497 ?_
  rw [e2]
  refine jr_sld (pc := 498) F hX g2 hL dL_law_498 ?_
  refine jr_callV (pc := 499) (st := []) F [iv (sc xs (i + 1)), iv (sc xs (i + 2))] (snd_X4_told (M := M) (rg_i32 _) (rg_i32 _) (Q := fun z => z = (r, C')) ⟨_, o1, rfl⟩) rfl ck_L_49 rfl m0_0 rfl rfl rfl (by decide) (Nat.le_of_ble_eq_true rfl) dL_law_499 rfl (fun v g' hq => ?_)
  obtain ⟨x, L1, rfl, r1, eg, hz⟩ := hq
  obtain ⟨rfl, rfl⟩ := Prod.mk.inj hz
  refine J_eq eg ?_
  show J X 502 [(0, .ref b), (1, .ref (xad X (0, 0, 0))), (2, .ref (xad X (4, 0, 0))), (3, iv i)] [iv x] (gs L1 4 0 M)
  refine jr_aload_n (pc := 502) F 2 dL_law_502 rfl rfl ?_
  refine jr_aload_n (pc := 503) F 0 dL_law_503 rfl rfl ?_
  refine jr_iload_n (pc := 504) F 3 dL_law_504 rfl rfl ?_
  refine jr_iconst (pc := 505) F dL_law_505 ?_
  refine jr_iadd (pc := 506) F dL_law_506 ?_
  rw [e1]
  refine jr_sld (pc := 507) F hX g1 hL dL_law_507 ?_
  refine jr_aload_n (pc := 508) F 0 dL_law_508 rfl rfl ?_
  refine jr_iload_n (pc := 509) F 3 dL_law_509 rfl rfl ?_
  refine jr_iconst (pc := 510) F dL_law_510 ?_
  refine jr_iadd (pc := 511) F dL_law_511 ?_
  rw [e2]
  refine jr_sld (pc := 512) F hX g2 hL dL_law_512 ?_
  refine jr_callV (pc := 513) (st := [iv x]) F [iv (sc xs (i + 1)), iv (sc xs (i + 2))] (snd_X5_told (g0 := L1) (rg_i32 _) (rg_i32 _) (Q := fun z => z = (x, M')) ⟨_, o2, rfl⟩) rfl ck_L_52 rfl m4_0 rfl rfl rfl (by decide) (Nat.le_of_ble_eq_true rfl) dL_law_513 rfl (fun v g' hq => ?_)
  obtain ⟨y, L2, rfl, r2, eg2, hz2⟩ := hq
  obtain ⟨rfl, rfl⟩ := Prod.mk.inj hz2
  refine J_eq eg2 ?_
  show J X 516 [(0, .ref b), (1, .ref (xad X (0, 0, 0))), (2, .ref (xad X (4, 0, 0))), (3, iv i)] [iv y, iv y] (gs L1 4 0 L2)
  refine jr_icmp_eq (pc := 516) (tgt := 1492) F r1 r1 dL_law_516 (by decide) (fun _ => ?_) (fun q => absurd rfl q)
  exact hN _ _ hR'
set_option maxHeartbeats 4000000 in
set_option maxRecDepth 100000 in
theorem law_case9 {X : Cx} (F : FX X code RL 4 ret SL 9) {b L : Nat} {xs : Nat → Int32} (hL : L ≤ 2147483648) (hX : LX X b L xs) {i : Int} (C : GG) (M : LT) (hR : Rel C M) (e1 : w32 (i + 1) = i + 1) (e2 : w32 (i + 2) = i + 2) (e3 : w32 (i + 3) = i + 3) (g1 : gd (i + 1) (L : Int)) (g2 : gd (i + 2) (L : Int)) (g3 : gd (i + 3) (L : Int)) (hN : ∀ (C : GG) (M : LT), Rel C M → J X 1492 [(0, .ref b), (1, .ref (xad X (0, 0, 0))), (2, .ref (xad X (4, 0, 0))), (3, iv i)] [] (gs C 4 0 M)) : J X 521 [(0, .ref b), (1, .ref (xad X (0, 0, 0))), (2, .ref (xad X (4, 0, 0))), (3, iv i)] [] (gs C 4 0 M) := by
  obtain ⟨r, C', M', o1, o2, hR'⟩ := op_waits C M hR (sc xs (i + 1)) (sc xs (i + 2)) (rg_i32 _) (rg_i32 _)
  refine jr_aload_n (pc := 521) F 1 dL_law_521 rfl rfl ?_
  refine jr_aload_n (pc := 522) F 0 dL_law_522 rfl rfl ?_
  refine jr_iload_n (pc := 523) F 3 dL_law_523 rfl rfl ?_
  refine jr_iconst (pc := 524) F dL_law_524 ?_
  refine jr_iadd (pc := 525) F dL_law_525 ?_
  rw [e1]
  refine jr_sld (pc := 526) F hX g1 hL dL_law_526 ?_
  refine jr_aload_n (pc := 527) F 0 dL_law_527 rfl rfl ?_
  refine jr_iload_n (pc := 528) F 3 dL_law_528 rfl rfl ?_
  refine jr_iconst (pc := 529) F dL_law_529 ?_
  refine jr_iadd (pc := 530) F dL_law_530 ?_
  rw [e2]
  refine jr_sld (pc := 531) F hX g2 hL dL_law_531 ?_
  refine jr_callV (pc := 532) (st := []) F [iv (sc xs (i + 1)), iv (sc xs (i + 2))] (snd_X4_waits (M := M) (rg_i32 _) (rg_i32 _) (Q := fun z => z = (r, C')) ⟨_, o1, rfl⟩) rfl ck_L_53 rfl m0_0 rfl rfl rfl (by decide) (Nat.le_of_ble_eq_true rfl) dL_law_532 rfl (fun v g' hq => ?_)
  obtain ⟨x, L1, rfl, r1, eg, hz⟩ := hq
  obtain ⟨rfl, rfl⟩ := Prod.mk.inj hz
  refine J_eq eg ?_
  show J X 535 [(0, .ref b), (1, .ref (xad X (0, 0, 0))), (2, .ref (xad X (4, 0, 0))), (3, iv i)] [iv x] (gs L1 4 0 M)
  refine jr_aload_n (pc := 535) F 2 dL_law_535 rfl rfl ?_
  refine jr_aload_n (pc := 536) F 0 dL_law_536 rfl rfl ?_
  refine jr_iload_n (pc := 537) F 3 dL_law_537 rfl rfl ?_
  refine jr_iconst (pc := 538) F dL_law_538 ?_
  refine jr_iadd (pc := 539) F dL_law_539 ?_
  rw [e1]
  refine jr_sld (pc := 540) F hX g1 hL dL_law_540 ?_
  refine jr_aload_n (pc := 541) F 0 dL_law_541 rfl rfl ?_
  refine jr_iload_n (pc := 542) F 3 dL_law_542 rfl rfl ?_
  refine jr_iconst (pc := 543) F dL_law_543 ?_
  refine jr_iadd (pc := 544) F dL_law_544 ?_
  rw [e2]
  refine jr_sld (pc := 545) F hX g2 hL dL_law_545 ?_
  refine jr_callV (pc := 546) (st := [iv x]) F [iv (sc xs (i + 1)), iv (sc xs (i + 2))] (snd_X5_waits (g0 := L1) (rg_i32 _) (rg_i32 _) (Q := fun z => z = (x, M')) ⟨_, o2, rfl⟩) rfl ck_L_56 rfl m4_0 rfl rfl rfl (by decide) (Nat.le_of_ble_eq_true rfl) dL_law_546 rfl (fun v g' hq => ?_)
  obtain ⟨y, L2, rfl, r2, eg2, hz2⟩ := hq
  obtain ⟨rfl, rfl⟩ := Prod.mk.inj hz2
  refine J_eq eg2 ?_
  show J X 549 [(0, .ref b), (1, .ref (xad X (0, 0, 0))), (2, .ref (xad X (4, 0, 0))), (3, iv i)] [iv y, iv y] (gs L1 4 0 L2)
  refine jr_icmp_eq (pc := 549) (tgt := 1492) F r1 r1 dL_law_549 (by decide) (fun _ => ?_) (fun q => absurd rfl q)
  exact hN _ _ hR'
set_option maxHeartbeats 4000000 in
set_option maxRecDepth 100000 in
theorem law_case10 {X : Cx} (F : FX X code RL 4 ret SL 9) {b L : Nat} {xs : Nat → Int32} (hL : L ≤ 2147483648) (hX : LX X b L xs) {i : Int} (C : GG) (M : LT) (hR : Rel C M) (e1 : w32 (i + 1) = i + 1) (e2 : w32 (i + 2) = i + 2) (e3 : w32 (i + 3) = i + 3) (g1 : gd (i + 1) (L : Int)) (g2 : gd (i + 2) (L : Int)) (g3 : gd (i + 3) (L : Int)) (hN : ∀ (C : GG) (M : LT), Rel C M → J X 1492 [(0, .ref b), (1, .ref (xad X (0, 0, 0))), (2, .ref (xad X (4, 0, 0))), (3, iv i)] [] (gs C 4 0 M)) : J X 554 [(0, .ref b), (1, .ref (xad X (0, 0, 0))), (2, .ref (xad X (4, 0, 0))), (3, iv i)] [] (gs C 4 0 M) := by
  obtain ⟨r, C', M', o1, o2, hR'⟩ := op_hours C M hR (sc xs (i + 1)) (rg_i32 _)
  refine jr_aload_n (pc := 554) F 1 dL_law_554 rfl rfl ?_
  refine jr_aload_n (pc := 555) F 0 dL_law_555 rfl rfl ?_
  refine jr_iload_n (pc := 556) F 3 dL_law_556 rfl rfl ?_
  refine jr_iconst (pc := 557) F dL_law_557 ?_
  refine jr_iadd (pc := 558) F dL_law_558 ?_
  rw [e1]
  refine jr_sld (pc := 559) F hX g1 hL dL_law_559 ?_
  refine jr_callV (pc := 560) (st := []) F [iv (sc xs (i + 1))] (snd_X4_hours (M := M) (rg_i32 _) (Q := fun z => z = (r, C')) ⟨_, o1, rfl⟩) rfl ck_L_57 rfl m0_0 rfl rfl rfl (by decide) (Nat.le_of_ble_eq_true rfl) dL_law_560 rfl (fun v g' hq => ?_)
  obtain ⟨x, L1, rfl, r1, eg, hz⟩ := hq
  obtain ⟨rfl, rfl⟩ := Prod.mk.inj hz
  refine J_eq eg ?_
  show J X 563 [(0, .ref b), (1, .ref (xad X (0, 0, 0))), (2, .ref (xad X (4, 0, 0))), (3, iv i)] [iv x] (gs L1 4 0 M)
  refine jr_aload_n (pc := 563) F 2 dL_law_563 rfl rfl ?_
  refine jr_aload_n (pc := 564) F 0 dL_law_564 rfl rfl ?_
  refine jr_iload_n (pc := 565) F 3 dL_law_565 rfl rfl ?_
  refine jr_iconst (pc := 566) F dL_law_566 ?_
  refine jr_iadd (pc := 567) F dL_law_567 ?_
  rw [e1]
  refine jr_sld (pc := 568) F hX g1 hL dL_law_568 ?_
  refine jr_callV (pc := 569) (st := [iv x]) F [iv (sc xs (i + 1))] (snd_X5_hours (g0 := L1) (rg_i32 _) (Q := fun z => z = (x, M')) ⟨_, o2, rfl⟩) rfl ck_L_60 rfl m4_0 rfl rfl rfl (by decide) (Nat.le_of_ble_eq_true rfl) dL_law_569 rfl (fun v g' hq => ?_)
  obtain ⟨y, L2, rfl, r2, eg2, hz2⟩ := hq
  obtain ⟨rfl, rfl⟩ := Prod.mk.inj hz2
  refine J_eq eg2 ?_
  show J X 572 [(0, .ref b), (1, .ref (xad X (0, 0, 0))), (2, .ref (xad X (4, 0, 0))), (3, iv i)] [iv y, iv y] (gs L1 4 0 L2)
  refine jr_icmp_eq (pc := 572) (tgt := 1492) F r1 r1 dL_law_572 (by decide) (fun _ => ?_) (fun q => absurd rfl q)
  exact hN _ _ hR'
set_option maxHeartbeats 4000000 in
set_option maxRecDepth 100000 in
theorem law_case11 {X : Cx} (F : FX X code RL 4 ret SL 9) {b L : Nat} {xs : Nat → Int32} (hL : L ≤ 2147483648) (hX : LX X b L xs) {i : Int} (C : GG) (M : LT) (hR : Rel C M) (e1 : w32 (i + 1) = i + 1) (e2 : w32 (i + 2) = i + 2) (e3 : w32 (i + 3) = i + 3) (g1 : gd (i + 1) (L : Int)) (g2 : gd (i + 2) (L : Int)) (g3 : gd (i + 3) (L : Int)) (hN : ∀ (C : GG) (M : LT), Rel C M → J X 1492 [(0, .ref b), (1, .ref (xad X (0, 0, 0))), (2, .ref (xad X (4, 0, 0))), (3, iv i)] [] (gs C 4 0 M)) : J X 577 [(0, .ref b), (1, .ref (xad X (0, 0, 0))), (2, .ref (xad X (4, 0, 0))), (3, iv i)] [] (gs C 4 0 M) := by
  obtain ⟨r, C', M', o1, o2, hR'⟩ := op_back C M hR  
  refine jr_aload_n (pc := 577) F 1 dL_law_577 rfl rfl ?_
  refine jr_callV (pc := 578) (st := []) F [] (snd_X4_back (M := M)  (Q := fun z => z = (r, C')) ⟨_, o1, rfl⟩) rfl ck_L_61 rfl m0_0 rfl rfl rfl (by decide) (Nat.le_of_ble_eq_true rfl) dL_law_578 rfl (fun v g' hq => ?_)
  obtain ⟨x, L1, rfl, r1, eg, hz⟩ := hq
  obtain ⟨rfl, rfl⟩ := Prod.mk.inj hz
  refine J_eq eg ?_
  show J X 581 [(0, .ref b), (1, .ref (xad X (0, 0, 0))), (2, .ref (xad X (4, 0, 0))), (3, iv i)] [iv x] (gs L1 4 0 M)
  refine jr_aload_n (pc := 581) F 2 dL_law_581 rfl rfl ?_
  refine jr_callV (pc := 582) (st := [iv x]) F [] (snd_X5_back (g0 := L1)  (Q := fun z => z = (x, M')) ⟨_, o2, rfl⟩) rfl ck_L_64 rfl m4_0 rfl rfl rfl (by decide) (Nat.le_of_ble_eq_true rfl) dL_law_582 rfl (fun v g' hq => ?_)
  obtain ⟨y, L2, rfl, r2, eg2, hz2⟩ := hq
  obtain ⟨rfl, rfl⟩ := Prod.mk.inj hz2
  refine J_eq eg2 ?_
  show J X 585 [(0, .ref b), (1, .ref (xad X (0, 0, 0))), (2, .ref (xad X (4, 0, 0))), (3, iv i)] [iv y, iv y] (gs L1 4 0 L2)
  refine jr_icmp_eq (pc := 585) (tgt := 1492) F r1 r1 dL_law_585 (by decide) (fun _ => ?_) (fun q => absurd rfl q)
  exact hN _ _ hR'
set_option maxHeartbeats 4000000 in
set_option maxRecDepth 100000 in
theorem law_case12 {X : Cx} (F : FX X code RL 4 ret SL 9) {b L : Nat} {xs : Nat → Int32} (hL : L ≤ 2147483648) (hX : LX X b L xs) {i : Int} (C : GG) (M : LT) (hR : Rel C M) (e1 : w32 (i + 1) = i + 1) (e2 : w32 (i + 2) = i + 2) (e3 : w32 (i + 3) = i + 3) (g1 : gd (i + 1) (L : Int)) (g2 : gd (i + 2) (L : Int)) (g3 : gd (i + 3) (L : Int)) (hN : ∀ (C : GG) (M : LT), Rel C M → J X 1492 [(0, .ref b), (1, .ref (xad X (0, 0, 0))), (2, .ref (xad X (4, 0, 0))), (3, iv i)] [] (gs C 4 0 M)) : J X 590 [(0, .ref b), (1, .ref (xad X (0, 0, 0))), (2, .ref (xad X (4, 0, 0))), (3, iv i)] [] (gs C 4 0 M) := by
  obtain ⟨r, C', M', o1, o2, hR'⟩ := op_frostIn C M hR (sc xs (i + 1)) (sc xs (i + 2)) (rg_i32 _) (rg_i32 _)
  refine jr_aload_n (pc := 590) F 1 dL_law_590 rfl rfl ?_
  refine jr_aload_n (pc := 591) F 0 dL_law_591 rfl rfl ?_
  refine jr_iload_n (pc := 592) F 3 dL_law_592 rfl rfl ?_
  refine jr_iconst (pc := 593) F dL_law_593 ?_
  refine jr_iadd (pc := 594) F dL_law_594 ?_
  rw [e1]
  refine jr_sld (pc := 595) F hX g1 hL dL_law_595 ?_
  refine jr_aload_n (pc := 596) F 0 dL_law_596 rfl rfl ?_
  refine jr_iload_n (pc := 597) F 3 dL_law_597 rfl rfl ?_
  refine jr_iconst (pc := 598) F dL_law_598 ?_
  refine jr_iadd (pc := 599) F dL_law_599 ?_
  rw [e2]
  refine jr_sld (pc := 600) F hX g2 hL dL_law_600 ?_
  refine jr_callV (pc := 601) (st := []) F [iv (sc xs (i + 1)), iv (sc xs (i + 2))] (snd_X4_frostIn (M := M) (rg_i32 _) (rg_i32 _) (Q := fun z => z = (r, C')) ⟨_, o1, rfl⟩) rfl ck_L_65 rfl m0_0 rfl rfl rfl (by decide) (Nat.le_of_ble_eq_true rfl) dL_law_601 rfl (fun v g' hq => ?_)
  obtain ⟨x, L1, rfl, r1, eg, hz⟩ := hq
  obtain ⟨rfl, rfl⟩ := Prod.mk.inj hz
  refine J_eq eg ?_
  show J X 604 [(0, .ref b), (1, .ref (xad X (0, 0, 0))), (2, .ref (xad X (4, 0, 0))), (3, iv i)] [iv x] (gs L1 4 0 M)
  refine jr_aload_n (pc := 604) F 2 dL_law_604 rfl rfl ?_
  refine jr_aload_n (pc := 605) F 0 dL_law_605 rfl rfl ?_
  refine jr_iload_n (pc := 606) F 3 dL_law_606 rfl rfl ?_
  refine jr_iconst (pc := 607) F dL_law_607 ?_
  refine jr_iadd (pc := 608) F dL_law_608 ?_
  rw [e1]
  refine jr_sld (pc := 609) F hX g1 hL dL_law_609 ?_
  refine jr_aload_n (pc := 610) F 0 dL_law_610 rfl rfl ?_
  refine jr_iload_n (pc := 611) F 3 dL_law_611 rfl rfl ?_
  refine jr_iconst (pc := 612) F dL_law_612 ?_
  refine jr_iadd (pc := 613) F dL_law_613 ?_
  rw [e2]
  refine jr_sld (pc := 614) F hX g2 hL dL_law_614 ?_
  refine jr_callV (pc := 615) (st := [iv x]) F [iv (sc xs (i + 1)), iv (sc xs (i + 2))] (snd_X5_frostIn (g0 := L1) (rg_i32 _) (rg_i32 _) (Q := fun z => z = (x, M')) ⟨_, o2, rfl⟩) rfl ck_L_68 rfl m4_0 rfl rfl rfl (by decide) (Nat.le_of_ble_eq_true rfl) dL_law_615 rfl (fun v g' hq => ?_)
  obtain ⟨y, L2, rfl, r2, eg2, hz2⟩ := hq
  obtain ⟨rfl, rfl⟩ := Prod.mk.inj hz2
  refine J_eq eg2 ?_
  show J X 618 [(0, .ref b), (1, .ref (xad X (0, 0, 0))), (2, .ref (xad X (4, 0, 0))), (3, iv i)] [iv y, iv y] (gs L1 4 0 L2)
  refine jr_icmp_eq (pc := 618) (tgt := 1492) F r1 r1 dL_law_618 (by decide) (fun _ => ?_) (fun q => absurd rfl q)
  exact hN _ _ hR'
set_option maxHeartbeats 4000000 in
set_option maxRecDepth 100000 in
theorem law_case13 {X : Cx} (F : FX X code RL 4 ret SL 9) {b L : Nat} {xs : Nat → Int32} (hL : L ≤ 2147483648) (hX : LX X b L xs) {i : Int} (C : GG) (M : LT) (hR : Rel C M) (e1 : w32 (i + 1) = i + 1) (e2 : w32 (i + 2) = i + 2) (e3 : w32 (i + 3) = i + 3) (g1 : gd (i + 1) (L : Int)) (g2 : gd (i + 2) (L : Int)) (g3 : gd (i + 3) (L : Int)) (hN : ∀ (C : GG) (M : LT), Rel C M → J X 1492 [(0, .ref b), (1, .ref (xad X (0, 0, 0))), (2, .ref (xad X (4, 0, 0))), (3, iv i)] [] (gs C 4 0 M)) : J X 623 [(0, .ref b), (1, .ref (xad X (0, 0, 0))), (2, .ref (xad X (4, 0, 0))), (3, iv i)] [] (gs C 4 0 M) := by
  obtain ⟨r, C', M', o1, o2, hR'⟩ := op_trainIn C M hR (sc xs (i + 1)) (sc xs (i + 2)) (sc xs (i + 3)) (rg_i32 _) (rg_i32 _) (rg_i32 _)
  refine jr_aload_n (pc := 623) F 1 dL_law_623 rfl rfl ?_
  refine jr_aload_n (pc := 624) F 0 dL_law_624 rfl rfl ?_
  refine jr_iload_n (pc := 625) F 3 dL_law_625 rfl rfl ?_
  refine jr_iconst (pc := 626) F dL_law_626 ?_
  refine jr_iadd (pc := 627) F dL_law_627 ?_
  rw [e1]
  refine jr_sld (pc := 628) F hX g1 hL dL_law_628 ?_
  refine jr_aload_n (pc := 629) F 0 dL_law_629 rfl rfl ?_
  refine jr_iload_n (pc := 630) F 3 dL_law_630 rfl rfl ?_
  refine jr_iconst (pc := 631) F dL_law_631 ?_
  refine jr_iadd (pc := 632) F dL_law_632 ?_
  rw [e2]
  refine jr_sld (pc := 633) F hX g2 hL dL_law_633 ?_
  refine jr_aload_n (pc := 634) F 0 dL_law_634 rfl rfl ?_
  refine jr_iload_n (pc := 635) F 3 dL_law_635 rfl rfl ?_
  refine jr_iconst (pc := 636) F dL_law_636 ?_
  refine jr_iadd (pc := 637) F dL_law_637 ?_
  rw [e3]
  refine jr_sld (pc := 638) F hX g3 hL dL_law_638 ?_
  refine jr_callV (pc := 639) (st := []) F [iv (sc xs (i + 1)), iv (sc xs (i + 2)), iv (sc xs (i + 3))] (snd_X4_trainIn (M := M) (rg_i32 _) (rg_i32 _) (rg_i32 _) (Q := fun z => z = (r, C')) ⟨_, o1, rfl⟩) rfl ck_L_69 rfl m0_0 rfl rfl rfl (by decide) (Nat.le_of_ble_eq_true rfl) dL_law_639 rfl (fun v g' hq => ?_)
  obtain ⟨x, L1, rfl, r1, eg, hz⟩ := hq
  obtain ⟨rfl, rfl⟩ := Prod.mk.inj hz
  refine J_eq eg ?_
  show J X 642 [(0, .ref b), (1, .ref (xad X (0, 0, 0))), (2, .ref (xad X (4, 0, 0))), (3, iv i)] [iv x] (gs L1 4 0 M)
  refine jr_aload_n (pc := 642) F 2 dL_law_642 rfl rfl ?_
  refine jr_aload_n (pc := 643) F 0 dL_law_643 rfl rfl ?_
  refine jr_iload_n (pc := 644) F 3 dL_law_644 rfl rfl ?_
  refine jr_iconst (pc := 645) F dL_law_645 ?_
  refine jr_iadd (pc := 646) F dL_law_646 ?_
  rw [e1]
  refine jr_sld (pc := 647) F hX g1 hL dL_law_647 ?_
  refine jr_aload_n (pc := 648) F 0 dL_law_648 rfl rfl ?_
  refine jr_iload_n (pc := 649) F 3 dL_law_649 rfl rfl ?_
  refine jr_iconst (pc := 650) F dL_law_650 ?_
  refine jr_iadd (pc := 651) F dL_law_651 ?_
  rw [e2]
  refine jr_sld (pc := 652) F hX g2 hL dL_law_652 ?_
  refine jr_aload_n (pc := 653) F 0 dL_law_653 rfl rfl ?_
  refine jr_iload_n (pc := 654) F 3 dL_law_654 rfl rfl ?_
  refine jr_iconst (pc := 655) F dL_law_655 ?_
  refine jr_iadd (pc := 656) F dL_law_656 ?_
  rw [e3]
  refine jr_sld (pc := 657) F hX g3 hL dL_law_657 ?_
  refine jr_callV (pc := 658) (st := [iv x]) F [iv (sc xs (i + 1)), iv (sc xs (i + 2)), iv (sc xs (i + 3))] (snd_X5_trainIn (g0 := L1) (rg_i32 _) (rg_i32 _) (rg_i32 _) (Q := fun z => z = (x, M')) ⟨_, o2, rfl⟩) rfl ck_L_72 rfl m4_0 rfl rfl rfl (by decide) (Nat.le_of_ble_eq_true rfl) dL_law_658 rfl (fun v g' hq => ?_)
  obtain ⟨y, L2, rfl, r2, eg2, hz2⟩ := hq
  obtain ⟨rfl, rfl⟩ := Prod.mk.inj hz2
  refine J_eq eg2 ?_
  show J X 661 [(0, .ref b), (1, .ref (xad X (0, 0, 0))), (2, .ref (xad X (4, 0, 0))), (3, iv i)] [iv y, iv y] (gs L1 4 0 L2)
  refine jr_icmp_eq (pc := 661) (tgt := 1492) F r1 r1 dL_law_661 (by decide) (fun _ => ?_) (fun q => absurd rfl q)
  exact hN _ _ hR'
set_option maxHeartbeats 4000000 in
set_option maxRecDepth 100000 in
theorem law_case14 {X : Cx} (F : FX X code RL 4 ret SL 9) {b L : Nat} {xs : Nat → Int32} (hL : L ≤ 2147483648) (hX : LX X b L xs) {i : Int} (C : GG) (M : LT) (hR : Rel C M) (e1 : w32 (i + 1) = i + 1) (e2 : w32 (i + 2) = i + 2) (e3 : w32 (i + 3) = i + 3) (g1 : gd (i + 1) (L : Int)) (g2 : gd (i + 2) (L : Int)) (g3 : gd (i + 3) (L : Int)) (hN : ∀ (C : GG) (M : LT), Rel C M → J X 1492 [(0, .ref b), (1, .ref (xad X (0, 0, 0))), (2, .ref (xad X (4, 0, 0))), (3, iv i)] [] (gs C 4 0 M)) : J X 666 [(0, .ref b), (1, .ref (xad X (0, 0, 0))), (2, .ref (xad X (4, 0, 0))), (3, iv i)] [] (gs C 4 0 M) := by
  obtain ⟨r, C', M', o1, o2, hR'⟩ := op_through C M hR (sc xs (i + 1)) (sc xs (i + 2)) (rg_i32 _) (rg_i32 _)
  refine jr_aload_n (pc := 666) F 1 dL_law_666 rfl rfl ?_
  refine jr_aload_n (pc := 667) F 0 dL_law_667 rfl rfl ?_
  refine jr_iload_n (pc := 668) F 3 dL_law_668 rfl rfl ?_
  refine jr_iconst (pc := 669) F dL_law_669 ?_
  refine jr_iadd (pc := 670) F dL_law_670 ?_
  rw [e1]
  refine jr_sld (pc := 671) F hX g1 hL dL_law_671 ?_
  refine jr_aload_n (pc := 672) F 0 dL_law_672 rfl rfl ?_
  refine jr_iload_n (pc := 673) F 3 dL_law_673 rfl rfl ?_
  refine jr_iconst (pc := 674) F dL_law_674 ?_
  refine jr_iadd (pc := 675) F dL_law_675 ?_
  rw [e2]
  refine jr_sld (pc := 676) F hX g2 hL dL_law_676 ?_
  refine jr_callV (pc := 677) (st := []) F [iv (sc xs (i + 1)), iv (sc xs (i + 2))] (snd_X4_through (M := M) (rg_i32 _) (rg_i32 _) (Q := fun z => z = (r, C')) ⟨_, o1, rfl⟩) rfl ck_L_73 rfl m0_0 rfl rfl rfl (by decide) (Nat.le_of_ble_eq_true rfl) dL_law_677 rfl (fun v g' hq => ?_)
  obtain ⟨x, L1, rfl, r1, eg, hz⟩ := hq
  obtain ⟨rfl, rfl⟩ := Prod.mk.inj hz
  refine J_eq eg ?_
  show J X 680 [(0, .ref b), (1, .ref (xad X (0, 0, 0))), (2, .ref (xad X (4, 0, 0))), (3, iv i)] [iv x] (gs L1 4 0 M)
  refine jr_aload_n (pc := 680) F 2 dL_law_680 rfl rfl ?_
  refine jr_aload_n (pc := 681) F 0 dL_law_681 rfl rfl ?_
  refine jr_iload_n (pc := 682) F 3 dL_law_682 rfl rfl ?_
  refine jr_iconst (pc := 683) F dL_law_683 ?_
  refine jr_iadd (pc := 684) F dL_law_684 ?_
  rw [e1]
  refine jr_sld (pc := 685) F hX g1 hL dL_law_685 ?_
  refine jr_aload_n (pc := 686) F 0 dL_law_686 rfl rfl ?_
  refine jr_iload_n (pc := 687) F 3 dL_law_687 rfl rfl ?_
  refine jr_iconst (pc := 688) F dL_law_688 ?_
  refine jr_iadd (pc := 689) F dL_law_689 ?_
  rw [e2]
  refine jr_sld (pc := 690) F hX g2 hL dL_law_690 ?_
  refine jr_callV (pc := 691) (st := [iv x]) F [iv (sc xs (i + 1)), iv (sc xs (i + 2))] (snd_X5_through (g0 := L1) (rg_i32 _) (rg_i32 _) (Q := fun z => z = (x, M')) ⟨_, o2, rfl⟩) rfl ck_L_76 rfl m4_0 rfl rfl rfl (by decide) (Nat.le_of_ble_eq_true rfl) dL_law_691 rfl (fun v g' hq => ?_)
  obtain ⟨y, L2, rfl, r2, eg2, hz2⟩ := hq
  obtain ⟨rfl, rfl⟩ := Prod.mk.inj hz2
  refine J_eq eg2 ?_
  show J X 694 [(0, .ref b), (1, .ref (xad X (0, 0, 0))), (2, .ref (xad X (4, 0, 0))), (3, iv i)] [iv y, iv y] (gs L1 4 0 L2)
  refine jr_icmp_eq (pc := 694) (tgt := 1492) F r1 r1 dL_law_694 (by decide) (fun _ => ?_) (fun q => absurd rfl q)
  exact hN _ _ hR'
set_option maxHeartbeats 4000000 in
set_option maxRecDepth 100000 in
theorem law_case15 {X : Cx} (F : FX X code RL 4 ret SL 9) {b L : Nat} {xs : Nat → Int32} (hL : L ≤ 2147483648) (hX : LX X b L xs) {i : Int} (C : GG) (M : LT) (hR : Rel C M) (e1 : w32 (i + 1) = i + 1) (e2 : w32 (i + 2) = i + 2) (e3 : w32 (i + 3) = i + 3) (g1 : gd (i + 1) (L : Int)) (g2 : gd (i + 2) (L : Int)) (g3 : gd (i + 3) (L : Int)) (hN : ∀ (C : GG) (M : LT), Rel C M → J X 1492 [(0, .ref b), (1, .ref (xad X (0, 0, 0))), (2, .ref (xad X (4, 0, 0))), (3, iv i)] [] (gs C 4 0 M)) : J X 699 [(0, .ref b), (1, .ref (xad X (0, 0, 0))), (2, .ref (xad X (4, 0, 0))), (3, iv i)] [] (gs C 4 0 M) := by
  obtain ⟨r, C', M', o1, o2, hR'⟩ := op_thin C M hR (sc xs (i + 1)) (sc xs (i + 2)) (rg_i32 _) (rg_i32 _)
  refine jr_aload_n (pc := 699) F 1 dL_law_699 rfl rfl ?_
  refine jr_aload_n (pc := 700) F 0 dL_law_700 rfl rfl ?_
  refine jr_iload_n (pc := 701) F 3 dL_law_701 rfl rfl ?_
  refine jr_iconst (pc := 702) F dL_law_702 ?_
  refine jr_iadd (pc := 703) F dL_law_703 ?_
  rw [e1]
  refine jr_sld (pc := 704) F hX g1 hL dL_law_704 ?_
  refine jr_aload_n (pc := 705) F 0 dL_law_705 rfl rfl ?_
  refine jr_iload_n (pc := 706) F 3 dL_law_706 rfl rfl ?_
  refine jr_iconst (pc := 707) F dL_law_707 ?_
  refine jr_iadd (pc := 708) F dL_law_708 ?_
  rw [e2]
  refine jr_sld (pc := 709) F hX g2 hL dL_law_709 ?_
  refine jr_callV (pc := 710) (st := []) F [iv (sc xs (i + 1)), iv (sc xs (i + 2))] (snd_X4_thin (M := M) (rg_i32 _) (rg_i32 _) (Q := fun z => z = (r, C')) ⟨_, o1, rfl⟩) rfl ck_L_77 rfl m0_0 rfl rfl rfl (by decide) (Nat.le_of_ble_eq_true rfl) dL_law_710 rfl (fun v g' hq => ?_)
  obtain ⟨x, L1, rfl, r1, eg, hz⟩ := hq
  obtain ⟨rfl, rfl⟩ := Prod.mk.inj hz
  refine J_eq eg ?_
  show J X 713 [(0, .ref b), (1, .ref (xad X (0, 0, 0))), (2, .ref (xad X (4, 0, 0))), (3, iv i)] [iv x] (gs L1 4 0 M)
  refine jr_aload_n (pc := 713) F 2 dL_law_713 rfl rfl ?_
  refine jr_aload_n (pc := 714) F 0 dL_law_714 rfl rfl ?_
  refine jr_iload_n (pc := 715) F 3 dL_law_715 rfl rfl ?_
  refine jr_iconst (pc := 716) F dL_law_716 ?_
  refine jr_iadd (pc := 717) F dL_law_717 ?_
  rw [e1]
  refine jr_sld (pc := 718) F hX g1 hL dL_law_718 ?_
  refine jr_aload_n (pc := 719) F 0 dL_law_719 rfl rfl ?_
  refine jr_iload_n (pc := 720) F 3 dL_law_720 rfl rfl ?_
  refine jr_iconst (pc := 721) F dL_law_721 ?_
  refine jr_iadd (pc := 722) F dL_law_722 ?_
  rw [e2]
  refine jr_sld (pc := 723) F hX g2 hL dL_law_723 ?_
  refine jr_callV (pc := 724) (st := [iv x]) F [iv (sc xs (i + 1)), iv (sc xs (i + 2))] (snd_X5_thin (g0 := L1) (rg_i32 _) (rg_i32 _) (Q := fun z => z = (x, M')) ⟨_, o2, rfl⟩) rfl ck_L_80 rfl m4_0 rfl rfl rfl (by decide) (Nat.le_of_ble_eq_true rfl) dL_law_724 rfl (fun v g' hq => ?_)
  obtain ⟨y, L2, rfl, r2, eg2, hz2⟩ := hq
  obtain ⟨rfl, rfl⟩ := Prod.mk.inj hz2
  refine J_eq eg2 ?_
  show J X 727 [(0, .ref b), (1, .ref (xad X (0, 0, 0))), (2, .ref (xad X (4, 0, 0))), (3, iv i)] [iv y, iv y] (gs L1 4 0 L2)
  refine jr_icmp_eq (pc := 727) (tgt := 1492) F r1 r1 dL_law_727 (by decide) (fun _ => ?_) (fun q => absurd rfl q)
  exact hN _ _ hR'
set_option maxHeartbeats 4000000 in
set_option maxRecDepth 100000 in
theorem law_case16 {X : Cx} (F : FX X code RL 4 ret SL 9) {b L : Nat} {xs : Nat → Int32} (hL : L ≤ 2147483648) (hX : LX X b L xs) {i : Int} (C : GG) (M : LT) (hR : Rel C M) (e1 : w32 (i + 1) = i + 1) (e2 : w32 (i + 2) = i + 2) (e3 : w32 (i + 3) = i + 3) (g1 : gd (i + 1) (L : Int)) (g2 : gd (i + 2) (L : Int)) (g3 : gd (i + 3) (L : Int)) (hN : ∀ (C : GG) (M : LT), Rel C M → J X 1492 [(0, .ref b), (1, .ref (xad X (0, 0, 0))), (2, .ref (xad X (4, 0, 0))), (3, iv i)] [] (gs C 4 0 M)) : J X 732 [(0, .ref b), (1, .ref (xad X (0, 0, 0))), (2, .ref (xad X (4, 0, 0))), (3, iv i)] [] (gs C 4 0 M) := by
  obtain ⟨r, C', M', o1, o2, hR'⟩ := op_lasts C M hR (sc xs (i + 1)) (sc xs (i + 2)) (rg_i32 _) (rg_i32 _)
  refine jr_aload_n (pc := 732) F 1 dL_law_732 rfl rfl ?_
  refine jr_aload_n (pc := 733) F 0 dL_law_733 rfl rfl ?_
  refine jr_iload_n (pc := 734) F 3 dL_law_734 rfl rfl ?_
  refine jr_iconst (pc := 735) F dL_law_735 ?_
  refine jr_iadd (pc := 736) F dL_law_736 ?_
  rw [e1]
  refine jr_sld (pc := 737) F hX g1 hL dL_law_737 ?_
  refine jr_aload_n (pc := 738) F 0 dL_law_738 rfl rfl ?_
  refine jr_iload_n (pc := 739) F 3 dL_law_739 rfl rfl ?_
  refine jr_iconst (pc := 740) F dL_law_740 ?_
  refine jr_iadd (pc := 741) F dL_law_741 ?_
  rw [e2]
  refine jr_sld (pc := 742) F hX g2 hL dL_law_742 ?_
  refine jr_callV (pc := 743) (st := []) F [iv (sc xs (i + 1)), iv (sc xs (i + 2))] (snd_X4_lasts (M := M) (rg_i32 _) (rg_i32 _) (Q := fun z => z = (r, C')) ⟨_, o1, rfl⟩) rfl ck_L_81 rfl m0_0 rfl rfl rfl (by decide) (Nat.le_of_ble_eq_true rfl) dL_law_743 rfl (fun v g' hq => ?_)
  obtain ⟨x, L1, rfl, r1, eg, hz⟩ := hq
  obtain ⟨rfl, rfl⟩ := Prod.mk.inj hz
  refine J_eq eg ?_
  show J X 746 [(0, .ref b), (1, .ref (xad X (0, 0, 0))), (2, .ref (xad X (4, 0, 0))), (3, iv i)] [iv x] (gs L1 4 0 M)
  refine jr_aload_n (pc := 746) F 2 dL_law_746 rfl rfl ?_
  refine jr_aload_n (pc := 747) F 0 dL_law_747 rfl rfl ?_
  refine jr_iload_n (pc := 748) F 3 dL_law_748 rfl rfl ?_
  refine jr_iconst (pc := 749) F dL_law_749 ?_
  refine jr_iadd (pc := 750) F dL_law_750 ?_
  rw [e1]
  refine jr_sld (pc := 751) F hX g1 hL dL_law_751 ?_
  refine jr_aload_n (pc := 752) F 0 dL_law_752 rfl rfl ?_
  refine jr_iload_n (pc := 753) F 3 dL_law_753 rfl rfl ?_
  refine jr_iconst (pc := 754) F dL_law_754 ?_
  refine jr_iadd (pc := 755) F dL_law_755 ?_
  rw [e2]
  refine jr_sld (pc := 756) F hX g2 hL dL_law_756 ?_
  refine jr_callV (pc := 757) (st := [iv x]) F [iv (sc xs (i + 1)), iv (sc xs (i + 2))] (snd_X5_lasts (g0 := L1) (rg_i32 _) (rg_i32 _) (Q := fun z => z = (x, M')) ⟨_, o2, rfl⟩) rfl ck_L_84 rfl m4_0 rfl rfl rfl (by decide) (Nat.le_of_ble_eq_true rfl) dL_law_757 rfl (fun v g' hq => ?_)
  obtain ⟨y, L2, rfl, r2, eg2, hz2⟩ := hq
  obtain ⟨rfl, rfl⟩ := Prod.mk.inj hz2
  refine J_eq eg2 ?_
  show J X 760 [(0, .ref b), (1, .ref (xad X (0, 0, 0))), (2, .ref (xad X (4, 0, 0))), (3, iv i)] [iv y, iv y] (gs L1 4 0 L2)
  refine jr_icmp_eq (pc := 760) (tgt := 1492) F r1 r1 dL_law_760 (by decide) (fun _ => ?_) (fun q => absurd rfl q)
  exact hN _ _ hR'
set_option maxHeartbeats 4000000 in
set_option maxRecDepth 100000 in
theorem law_case17 {X : Cx} (F : FX X code RL 4 ret SL 9) {b L : Nat} {xs : Nat → Int32} (hL : L ≤ 2147483648) (hX : LX X b L xs) {i : Int} (C : GG) (M : LT) (hR : Rel C M) (e1 : w32 (i + 1) = i + 1) (e2 : w32 (i + 2) = i + 2) (e3 : w32 (i + 3) = i + 3) (g1 : gd (i + 1) (L : Int)) (g2 : gd (i + 2) (L : Int)) (g3 : gd (i + 3) (L : Int)) (hN : ∀ (C : GG) (M : LT), Rel C M → J X 1492 [(0, .ref b), (1, .ref (xad X (0, 0, 0))), (2, .ref (xad X (4, 0, 0))), (3, iv i)] [] (gs C 4 0 M)) : J X 765 [(0, .ref b), (1, .ref (xad X (0, 0, 0))), (2, .ref (xad X (4, 0, 0))), (3, iv i)] [] (gs C 4 0 M) := by
  obtain ⟨r, C', M', o1, o2, hR'⟩ := op_lowest C M hR (sc xs (i + 1)) (sc xs (i + 2)) (rg_i32 _) (rg_i32 _)
  refine jr_aload_n (pc := 765) F 1 dL_law_765 rfl rfl ?_
  refine jr_aload_n (pc := 766) F 0 dL_law_766 rfl rfl ?_
  refine jr_iload_n (pc := 767) F 3 dL_law_767 rfl rfl ?_
  refine jr_iconst (pc := 768) F dL_law_768 ?_
  refine jr_iadd (pc := 769) F dL_law_769 ?_
  rw [e1]
  refine jr_sld (pc := 770) F hX g1 hL dL_law_770 ?_
  refine jr_aload_n (pc := 771) F 0 dL_law_771 rfl rfl ?_
  refine jr_iload_n (pc := 772) F 3 dL_law_772 rfl rfl ?_
  refine jr_iconst (pc := 773) F dL_law_773 ?_
  refine jr_iadd (pc := 774) F dL_law_774 ?_
  rw [e2]
  refine jr_sld (pc := 775) F hX g2 hL dL_law_775 ?_
  refine jr_callV (pc := 776) (st := []) F [iv (sc xs (i + 1)), iv (sc xs (i + 2))] (snd_X4_lowest (M := M) (rg_i32 _) (rg_i32 _) (Q := fun z => z = (r, C')) ⟨_, o1, rfl⟩) rfl ck_L_85 rfl m0_0 rfl rfl rfl (by decide) (Nat.le_of_ble_eq_true rfl) dL_law_776 rfl (fun v g' hq => ?_)
  obtain ⟨x, L1, rfl, r1, eg, hz⟩ := hq
  obtain ⟨rfl, rfl⟩ := Prod.mk.inj hz
  refine J_eq eg ?_
  show J X 779 [(0, .ref b), (1, .ref (xad X (0, 0, 0))), (2, .ref (xad X (4, 0, 0))), (3, iv i)] [iv x] (gs L1 4 0 M)
  refine jr_aload_n (pc := 779) F 2 dL_law_779 rfl rfl ?_
  refine jr_aload_n (pc := 780) F 0 dL_law_780 rfl rfl ?_
  refine jr_iload_n (pc := 781) F 3 dL_law_781 rfl rfl ?_
  refine jr_iconst (pc := 782) F dL_law_782 ?_
  refine jr_iadd (pc := 783) F dL_law_783 ?_
  rw [e1]
  refine jr_sld (pc := 784) F hX g1 hL dL_law_784 ?_
  refine jr_aload_n (pc := 785) F 0 dL_law_785 rfl rfl ?_
  refine jr_iload_n (pc := 786) F 3 dL_law_786 rfl rfl ?_
  refine jr_iconst (pc := 787) F dL_law_787 ?_
  refine jr_iadd (pc := 788) F dL_law_788 ?_
  rw [e2]
  refine jr_sld (pc := 789) F hX g2 hL dL_law_789 ?_
  refine jr_callV (pc := 790) (st := [iv x]) F [iv (sc xs (i + 1)), iv (sc xs (i + 2))] (snd_X5_lowest (g0 := L1) (rg_i32 _) (rg_i32 _) (Q := fun z => z = (x, M')) ⟨_, o2, rfl⟩) rfl ck_L_88 rfl m4_0 rfl rfl rfl (by decide) (Nat.le_of_ble_eq_true rfl) dL_law_790 rfl (fun v g' hq => ?_)
  obtain ⟨y, L2, rfl, r2, eg2, hz2⟩ := hq
  obtain ⟨rfl, rfl⟩ := Prod.mk.inj hz2
  refine J_eq eg2 ?_
  show J X 793 [(0, .ref b), (1, .ref (xad X (0, 0, 0))), (2, .ref (xad X (4, 0, 0))), (3, iv i)] [iv y, iv y] (gs L1 4 0 L2)
  refine jr_icmp_eq (pc := 793) (tgt := 1492) F r1 r1 dL_law_793 (by decide) (fun _ => ?_) (fun q => absurd rfl q)
  exact hN _ _ hR'
set_option maxHeartbeats 4000000 in
set_option maxRecDepth 100000 in
theorem law_case18 {X : Cx} (F : FX X code RL 4 ret SL 9) {b L : Nat} {xs : Nat → Int32} (hL : L ≤ 2147483648) (hX : LX X b L xs) {i : Int} (C : GG) (M : LT) (hR : Rel C M) (e1 : w32 (i + 1) = i + 1) (e2 : w32 (i + 2) = i + 2) (e3 : w32 (i + 3) = i + 3) (g1 : gd (i + 1) (L : Int)) (g2 : gd (i + 2) (L : Int)) (g3 : gd (i + 3) (L : Int)) (hN : ∀ (C : GG) (M : LT), Rel C M → J X 1492 [(0, .ref b), (1, .ref (xad X (0, 0, 0))), (2, .ref (xad X (4, 0, 0))), (3, iv i)] [] (gs C 4 0 M)) : J X 798 [(0, .ref b), (1, .ref (xad X (0, 0, 0))), (2, .ref (xad X (4, 0, 0))), (3, iv i)] [] (gs C 4 0 M) := by
  obtain ⟨r, C', M', o1, o2, hR'⟩ := op_last C M hR (sc xs (i + 1)) (rg_i32 _)
  refine jr_aload_n (pc := 798) F 1 dL_law_798 rfl rfl ?_
  refine jr_aload_n (pc := 799) F 0 dL_law_799 rfl rfl ?_
  refine jr_iload_n (pc := 800) F 3 dL_law_800 rfl rfl ?_
  refine jr_iconst (pc := 801) F dL_law_801 ?_
  refine jr_iadd (pc := 802) F dL_law_802 ?_
  rw [e1]
  refine jr_sld (pc := 803) F hX g1 hL dL_law_803 ?_
  refine jr_callV (pc := 804) (st := []) F [iv (sc xs (i + 1))] (snd_X4_last (M := M) (rg_i32 _) (Q := fun z => z = (r, C')) ⟨_, o1, rfl⟩) rfl ck_L_89 rfl m0_0 rfl rfl rfl (by decide) (Nat.le_of_ble_eq_true rfl) dL_law_804 rfl (fun v g' hq => ?_)
  obtain ⟨x, L1, rfl, r1, eg, hz⟩ := hq
  obtain ⟨rfl, rfl⟩ := Prod.mk.inj hz
  refine J_eq eg ?_
  show J X 807 [(0, .ref b), (1, .ref (xad X (0, 0, 0))), (2, .ref (xad X (4, 0, 0))), (3, iv i)] [iv x] (gs L1 4 0 M)
  refine jr_aload_n (pc := 807) F 2 dL_law_807 rfl rfl ?_
  refine jr_aload_n (pc := 808) F 0 dL_law_808 rfl rfl ?_
  refine jr_iload_n (pc := 809) F 3 dL_law_809 rfl rfl ?_
  refine jr_iconst (pc := 810) F dL_law_810 ?_
  refine jr_iadd (pc := 811) F dL_law_811 ?_
  rw [e1]
  refine jr_sld (pc := 812) F hX g1 hL dL_law_812 ?_
  refine jr_callV (pc := 813) (st := [iv x]) F [iv (sc xs (i + 1))] (snd_X5_last (g0 := L1) (rg_i32 _) (Q := fun z => z = (x, M')) ⟨_, o2, rfl⟩) rfl ck_L_92 rfl m4_0 rfl rfl rfl (by decide) (Nat.le_of_ble_eq_true rfl) dL_law_813 rfl (fun v g' hq => ?_)
  obtain ⟨y, L2, rfl, r2, eg2, hz2⟩ := hq
  obtain ⟨rfl, rfl⟩ := Prod.mk.inj hz2
  refine J_eq eg2 ?_
  show J X 816 [(0, .ref b), (1, .ref (xad X (0, 0, 0))), (2, .ref (xad X (4, 0, 0))), (3, iv i)] [iv y, iv y] (gs L1 4 0 L2)
  refine jr_icmp_eq (pc := 816) (tgt := 1492) F r1 r1 dL_law_816 (by decide) (fun _ => ?_) (fun q => absurd rfl q)
  exact hN _ _ hR'
set_option maxHeartbeats 4000000 in
set_option maxRecDepth 100000 in
theorem law_case19 {X : Cx} (F : FX X code RL 4 ret SL 9) {b L : Nat} {xs : Nat → Int32} (hL : L ≤ 2147483648) (hX : LX X b L xs) {i : Int} (C : GG) (M : LT) (hR : Rel C M) (e1 : w32 (i + 1) = i + 1) (e2 : w32 (i + 2) = i + 2) (e3 : w32 (i + 3) = i + 3) (g1 : gd (i + 1) (L : Int)) (g2 : gd (i + 2) (L : Int)) (g3 : gd (i + 3) (L : Int)) (hN : ∀ (C : GG) (M : LT), Rel C M → J X 1492 [(0, .ref b), (1, .ref (xad X (0, 0, 0))), (2, .ref (xad X (4, 0, 0))), (3, iv i)] [] (gs C 4 0 M)) : J X 821 [(0, .ref b), (1, .ref (xad X (0, 0, 0))), (2, .ref (xad X (4, 0, 0))), (3, iv i)] [] (gs C 4 0 M) := by
  obtain ⟨r, C', M', o1, o2, hR'⟩ := op_bestWait C M hR (sc xs (i + 1)) (sc xs (i + 2)) (rg_i32 _) (rg_i32 _)
  refine jr_aload_n (pc := 821) F 1 dL_law_821 rfl rfl ?_
  refine jr_aload_n (pc := 822) F 0 dL_law_822 rfl rfl ?_
  refine jr_iload_n (pc := 823) F 3 dL_law_823 rfl rfl ?_
  refine jr_iconst (pc := 824) F dL_law_824 ?_
  refine jr_iadd (pc := 825) F dL_law_825 ?_
  rw [e1]
  refine jr_sld (pc := 826) F hX g1 hL dL_law_826 ?_
  refine jr_aload_n (pc := 827) F 0 dL_law_827 rfl rfl ?_
  refine jr_iload_n (pc := 828) F 3 dL_law_828 rfl rfl ?_
  refine jr_iconst (pc := 829) F dL_law_829 ?_
  refine jr_iadd (pc := 830) F dL_law_830 ?_
  rw [e2]
  refine jr_sld (pc := 831) F hX g2 hL dL_law_831 ?_
  refine jr_callV (pc := 832) (st := []) F [iv (sc xs (i + 1)), iv (sc xs (i + 2))] (snd_X4_bestWait (M := M) (rg_i32 _) (rg_i32 _) (Q := fun z => z = (r, C')) ⟨_, o1, rfl⟩) rfl ck_L_93 rfl m0_0 rfl rfl rfl (by decide) (Nat.le_of_ble_eq_true rfl) dL_law_832 rfl (fun v g' hq => ?_)
  obtain ⟨x, L1, rfl, r1, eg, hz⟩ := hq
  obtain ⟨rfl, rfl⟩ := Prod.mk.inj hz
  refine J_eq eg ?_
  show J X 835 [(0, .ref b), (1, .ref (xad X (0, 0, 0))), (2, .ref (xad X (4, 0, 0))), (3, iv i)] [iv x] (gs L1 4 0 M)
  refine jr_aload_n (pc := 835) F 2 dL_law_835 rfl rfl ?_
  refine jr_aload_n (pc := 836) F 0 dL_law_836 rfl rfl ?_
  refine jr_iload_n (pc := 837) F 3 dL_law_837 rfl rfl ?_
  refine jr_iconst (pc := 838) F dL_law_838 ?_
  refine jr_iadd (pc := 839) F dL_law_839 ?_
  rw [e1]
  refine jr_sld (pc := 840) F hX g1 hL dL_law_840 ?_
  refine jr_aload_n (pc := 841) F 0 dL_law_841 rfl rfl ?_
  refine jr_iload_n (pc := 842) F 3 dL_law_842 rfl rfl ?_
  refine jr_iconst (pc := 843) F dL_law_843 ?_
  refine jr_iadd (pc := 844) F dL_law_844 ?_
  rw [e2]
  refine jr_sld (pc := 845) F hX g2 hL dL_law_845 ?_
  refine jr_callV (pc := 846) (st := [iv x]) F [iv (sc xs (i + 1)), iv (sc xs (i + 2))] (snd_X5_bestWait (g0 := L1) (rg_i32 _) (rg_i32 _) (Q := fun z => z = (x, M')) ⟨_, o2, rfl⟩) rfl ck_L_96 rfl m4_0 rfl rfl rfl (by decide) (Nat.le_of_ble_eq_true rfl) dL_law_846 rfl (fun v g' hq => ?_)
  obtain ⟨y, L2, rfl, r2, eg2, hz2⟩ := hq
  obtain ⟨rfl, rfl⟩ := Prod.mk.inj hz2
  refine J_eq eg2 ?_
  show J X 849 [(0, .ref b), (1, .ref (xad X (0, 0, 0))), (2, .ref (xad X (4, 0, 0))), (3, iv i)] [iv y, iv y] (gs L1 4 0 L2)
  refine jr_icmp_eq (pc := 849) (tgt := 1492) F r1 r1 dL_law_849 (by decide) (fun _ => ?_) (fun q => absurd rfl q)
  exact hN _ _ hR'
set_option maxHeartbeats 4000000 in
set_option maxRecDepth 100000 in
theorem law_case20 {X : Cx} (F : FX X code RL 4 ret SL 9) {b L : Nat} {xs : Nat → Int32} (hL : L ≤ 2147483648) (hX : LX X b L xs) {i : Int} (C : GG) (M : LT) (hR : Rel C M) (e1 : w32 (i + 1) = i + 1) (e2 : w32 (i + 2) = i + 2) (e3 : w32 (i + 3) = i + 3) (g1 : gd (i + 1) (L : Int)) (g2 : gd (i + 2) (L : Int)) (g3 : gd (i + 3) (L : Int)) (hN : ∀ (C : GG) (M : LT), Rel C M → J X 1492 [(0, .ref b), (1, .ref (xad X (0, 0, 0))), (2, .ref (xad X (4, 0, 0))), (3, iv i)] [] (gs C 4 0 M)) : J X 854 [(0, .ref b), (1, .ref (xad X (0, 0, 0))), (2, .ref (xad X (4, 0, 0))), (3, iv i)] [] (gs C 4 0 M) := by
  obtain ⟨r, C', M', o1, o2, hR'⟩ := op_heaviest C M hR (sc xs (i + 1)) (sc xs (i + 2)) (rg_i32 _) (rg_i32 _)
  refine jr_aload_n (pc := 854) F 1 dL_law_854 rfl rfl ?_
  refine jr_aload_n (pc := 855) F 0 dL_law_855 rfl rfl ?_
  refine jr_iload_n (pc := 856) F 3 dL_law_856 rfl rfl ?_
  refine jr_iconst (pc := 857) F dL_law_857 ?_
  refine jr_iadd (pc := 858) F dL_law_858 ?_
  rw [e1]
  refine jr_sld (pc := 859) F hX g1 hL dL_law_859 ?_
  refine jr_aload_n (pc := 860) F 0 dL_law_860 rfl rfl ?_
  refine jr_iload_n (pc := 861) F 3 dL_law_861 rfl rfl ?_
  refine jr_iconst (pc := 862) F dL_law_862 ?_
  refine jr_iadd (pc := 863) F dL_law_863 ?_
  rw [e2]
  refine jr_sld (pc := 864) F hX g2 hL dL_law_864 ?_
  refine jr_callV (pc := 865) (st := []) F [iv (sc xs (i + 1)), iv (sc xs (i + 2))] (snd_X4_heaviest (M := M) (rg_i32 _) (rg_i32 _) (Q := fun z => z = (r, C')) ⟨_, o1, rfl⟩) rfl ck_L_97 rfl m0_0 rfl rfl rfl (by decide) (Nat.le_of_ble_eq_true rfl) dL_law_865 rfl (fun v g' hq => ?_)
  obtain ⟨x, L1, rfl, r1, eg, hz⟩ := hq
  obtain ⟨rfl, rfl⟩ := Prod.mk.inj hz
  refine J_eq eg ?_
  show J X 868 [(0, .ref b), (1, .ref (xad X (0, 0, 0))), (2, .ref (xad X (4, 0, 0))), (3, iv i)] [iv x] (gs L1 4 0 M)
  refine jr_aload_n (pc := 868) F 2 dL_law_868 rfl rfl ?_
  refine jr_aload_n (pc := 869) F 0 dL_law_869 rfl rfl ?_
  refine jr_iload_n (pc := 870) F 3 dL_law_870 rfl rfl ?_
  refine jr_iconst (pc := 871) F dL_law_871 ?_
  refine jr_iadd (pc := 872) F dL_law_872 ?_
  rw [e1]
  refine jr_sld (pc := 873) F hX g1 hL dL_law_873 ?_
  refine jr_aload_n (pc := 874) F 0 dL_law_874 rfl rfl ?_
  refine jr_iload_n (pc := 875) F 3 dL_law_875 rfl rfl ?_
  refine jr_iconst (pc := 876) F dL_law_876 ?_
  refine jr_iadd (pc := 877) F dL_law_877 ?_
  rw [e2]
  refine jr_sld (pc := 878) F hX g2 hL dL_law_878 ?_
  refine jr_callV (pc := 879) (st := [iv x]) F [iv (sc xs (i + 1)), iv (sc xs (i + 2))] (snd_X5_heaviest (g0 := L1) (rg_i32 _) (rg_i32 _) (Q := fun z => z = (x, M')) ⟨_, o2, rfl⟩) rfl ck_L_100 rfl m4_0 rfl rfl rfl (by decide) (Nat.le_of_ble_eq_true rfl) dL_law_879 rfl (fun v g' hq => ?_)
  obtain ⟨y, L2, rfl, r2, eg2, hz2⟩ := hq
  obtain ⟨rfl, rfl⟩ := Prod.mk.inj hz2
  refine J_eq eg2 ?_
  show J X 882 [(0, .ref b), (1, .ref (xad X (0, 0, 0))), (2, .ref (xad X (4, 0, 0))), (3, iv i)] [iv y, iv y] (gs L1 4 0 L2)
  refine jr_icmp_eq (pc := 882) (tgt := 1492) F r1 r1 dL_law_882 (by decide) (fun _ => ?_) (fun q => absurd rfl q)
  exact hN _ _ hR'
set_option maxHeartbeats 4000000 in
set_option maxRecDepth 100000 in
theorem law_case21 {X : Cx} (F : FX X code RL 4 ret SL 9) {b L : Nat} {xs : Nat → Int32} (hL : L ≤ 2147483648) (hX : LX X b L xs) {i : Int} (C : GG) (M : LT) (hR : Rel C M) (e1 : w32 (i + 1) = i + 1) (e2 : w32 (i + 2) = i + 2) (e3 : w32 (i + 3) = i + 3) (g1 : gd (i + 1) (L : Int)) (g2 : gd (i + 2) (L : Int)) (g3 : gd (i + 3) (L : Int)) (hN : ∀ (C : GG) (M : LT), Rel C M → J X 1492 [(0, .ref b), (1, .ref (xad X (0, 0, 0))), (2, .ref (xad X (4, 0, 0))), (3, iv i)] [] (gs C 4 0 M)) : J X 887 [(0, .ref b), (1, .ref (xad X (0, 0, 0))), (2, .ref (xad X (4, 0, 0))), (3, iv i)] [] (gs C 4 0 M) := by
  obtain ⟨r, C', M', o1, o2, hR'⟩ := op_pourFirst C M hR  
  refine jr_aload_n (pc := 887) F 1 dL_law_887 rfl rfl ?_
  refine jr_callV (pc := 888) (st := []) F [] (snd_X4_pourFirst (M := M)  (Q := fun z => z = (r, C')) ⟨_, o1, rfl⟩) rfl ck_L_101 rfl m0_0 rfl rfl rfl (by decide) (Nat.le_of_ble_eq_true rfl) dL_law_888 rfl (fun v g' hq => ?_)
  obtain ⟨x, L1, rfl, r1, eg, hz⟩ := hq
  obtain ⟨rfl, rfl⟩ := Prod.mk.inj hz
  refine J_eq eg ?_
  show J X 891 [(0, .ref b), (1, .ref (xad X (0, 0, 0))), (2, .ref (xad X (4, 0, 0))), (3, iv i)] [iv x] (gs L1 4 0 M)
  refine jr_aload_n (pc := 891) F 2 dL_law_891 rfl rfl ?_
  refine jr_callV (pc := 892) (st := [iv x]) F [] (snd_X5_pourFirst (g0 := L1)  (Q := fun z => z = (x, M')) ⟨_, o2, rfl⟩) rfl ck_L_104 rfl m4_0 rfl rfl rfl (by decide) (Nat.le_of_ble_eq_true rfl) dL_law_892 rfl (fun v g' hq => ?_)
  obtain ⟨y, L2, rfl, r2, eg2, hz2⟩ := hq
  obtain ⟨rfl, rfl⟩ := Prod.mk.inj hz2
  refine J_eq eg2 ?_
  show J X 895 [(0, .ref b), (1, .ref (xad X (0, 0, 0))), (2, .ref (xad X (4, 0, 0))), (3, iv i)] [iv y, iv y] (gs L1 4 0 L2)
  refine jr_icmp_eq (pc := 895) (tgt := 1492) F r1 r1 dL_law_895 (by decide) (fun _ => ?_) (fun q => absurd rfl q)
  exact hN _ _ hR'
set_option maxHeartbeats 4000000 in
set_option maxRecDepth 100000 in
theorem law_case22 {X : Cx} (F : FX X code RL 4 ret SL 9) {b L : Nat} {xs : Nat → Int32} (hL : L ≤ 2147483648) (hX : LX X b L xs) {i : Int} (C : GG) (M : LT) (hR : Rel C M) (e1 : w32 (i + 1) = i + 1) (e2 : w32 (i + 2) = i + 2) (e3 : w32 (i + 3) = i + 3) (g1 : gd (i + 1) (L : Int)) (g2 : gd (i + 2) (L : Int)) (g3 : gd (i + 3) (L : Int)) (hN : ∀ (C : GG) (M : LT), Rel C M → J X 1492 [(0, .ref b), (1, .ref (xad X (0, 0, 0))), (2, .ref (xad X (4, 0, 0))), (3, iv i)] [] (gs C 4 0 M)) : J X 900 [(0, .ref b), (1, .ref (xad X (0, 0, 0))), (2, .ref (xad X (4, 0, 0))), (3, iv i)] [] (gs C 4 0 M) := by
  obtain ⟨r, C', M', o1, o2, hR'⟩ := op_pourFewest C M hR (sc xs (i + 1)) (rg_i32 _)
  refine jr_aload_n (pc := 900) F 1 dL_law_900 rfl rfl ?_
  refine jr_aload_n (pc := 901) F 0 dL_law_901 rfl rfl ?_
  refine jr_iload_n (pc := 902) F 3 dL_law_902 rfl rfl ?_
  refine jr_iconst (pc := 903) F dL_law_903 ?_
  refine jr_iadd (pc := 904) F dL_law_904 ?_
  rw [e1]
  refine jr_sld (pc := 905) F hX g1 hL dL_law_905 ?_
  refine jr_callV (pc := 906) (st := []) F [iv (sc xs (i + 1))] (snd_X4_pourFewest (M := M) (rg_i32 _) (Q := fun z => z = (r, C')) ⟨_, o1, rfl⟩) rfl ck_L_105 rfl m0_0 rfl rfl rfl (by decide) (Nat.le_of_ble_eq_true rfl) dL_law_906 rfl (fun v g' hq => ?_)
  obtain ⟨x, L1, rfl, r1, eg, hz⟩ := hq
  obtain ⟨rfl, rfl⟩ := Prod.mk.inj hz
  refine J_eq eg ?_
  show J X 909 [(0, .ref b), (1, .ref (xad X (0, 0, 0))), (2, .ref (xad X (4, 0, 0))), (3, iv i)] [iv x] (gs L1 4 0 M)
  refine jr_aload_n (pc := 909) F 2 dL_law_909 rfl rfl ?_
  refine jr_aload_n (pc := 910) F 0 dL_law_910 rfl rfl ?_
  refine jr_iload_n (pc := 911) F 3 dL_law_911 rfl rfl ?_
  refine jr_iconst (pc := 912) F dL_law_912 ?_
  refine jr_iadd (pc := 913) F dL_law_913 ?_
  rw [e1]
  refine jr_sld (pc := 914) F hX g1 hL dL_law_914 ?_
  refine jr_callV (pc := 915) (st := [iv x]) F [iv (sc xs (i + 1))] (snd_X5_pourFewest (g0 := L1) (rg_i32 _) (Q := fun z => z = (x, M')) ⟨_, o2, rfl⟩) rfl ck_L_108 rfl m4_0 rfl rfl rfl (by decide) (Nat.le_of_ble_eq_true rfl) dL_law_915 rfl (fun v g' hq => ?_)
  obtain ⟨y, L2, rfl, r2, eg2, hz2⟩ := hq
  obtain ⟨rfl, rfl⟩ := Prod.mk.inj hz2
  refine J_eq eg2 ?_
  show J X 918 [(0, .ref b), (1, .ref (xad X (0, 0, 0))), (2, .ref (xad X (4, 0, 0))), (3, iv i)] [iv y, iv y] (gs L1 4 0 L2)
  refine jr_icmp_eq (pc := 918) (tgt := 1492) F r1 r1 dL_law_918 (by decide) (fun _ => ?_) (fun q => absurd rfl q)
  exact hN _ _ hR'
set_option maxHeartbeats 4000000 in
set_option maxRecDepth 100000 in
theorem law_case23 {X : Cx} (F : FX X code RL 4 ret SL 9) {b L : Nat} {xs : Nat → Int32} (hL : L ≤ 2147483648) (hX : LX X b L xs) {i : Int} (C : GG) (M : LT) (hR : Rel C M) (e1 : w32 (i + 1) = i + 1) (e2 : w32 (i + 2) = i + 2) (e3 : w32 (i + 3) = i + 3) (g1 : gd (i + 1) (L : Int)) (g2 : gd (i + 2) (L : Int)) (g3 : gd (i + 3) (L : Int)) (hN : ∀ (C : GG) (M : LT), Rel C M → J X 1492 [(0, .ref b), (1, .ref (xad X (0, 0, 0))), (2, .ref (xad X (4, 0, 0))), (3, iv i)] [] (gs C 4 0 M)) : J X 923 [(0, .ref b), (1, .ref (xad X (0, 0, 0))), (2, .ref (xad X (4, 0, 0))), (3, iv i)] [] (gs C 4 0 M) := by
  obtain ⟨r, C', M', o1, o2, hR'⟩ := op_strongest C M hR (sc xs (i + 1)) (rg_i32 _)
  refine jr_aload_n (pc := 923) F 1 dL_law_923 rfl rfl ?_
  refine jr_aload_n (pc := 924) F 0 dL_law_924 rfl rfl ?_
  refine jr_iload_n (pc := 925) F 3 dL_law_925 rfl rfl ?_
  refine jr_iconst (pc := 926) F dL_law_926 ?_
  refine jr_iadd (pc := 927) F dL_law_927 ?_
  rw [e1]
  refine jr_sld (pc := 928) F hX g1 hL dL_law_928 ?_
  refine jr_callV (pc := 929) (st := []) F [iv (sc xs (i + 1))] (snd_X4_strongest (M := M) (rg_i32 _) (Q := fun z => z = (r, C')) ⟨_, o1, rfl⟩) rfl ck_L_109 rfl m0_0 rfl rfl rfl (by decide) (Nat.le_of_ble_eq_true rfl) dL_law_929 rfl (fun v g' hq => ?_)
  obtain ⟨x, L1, rfl, r1, eg, hz⟩ := hq
  obtain ⟨rfl, rfl⟩ := Prod.mk.inj hz
  refine J_eq eg ?_
  show J X 932 [(0, .ref b), (1, .ref (xad X (0, 0, 0))), (2, .ref (xad X (4, 0, 0))), (3, iv i)] [iv x] (gs L1 4 0 M)
  refine jr_aload_n (pc := 932) F 2 dL_law_932 rfl rfl ?_
  refine jr_aload_n (pc := 933) F 0 dL_law_933 rfl rfl ?_
  refine jr_iload_n (pc := 934) F 3 dL_law_934 rfl rfl ?_
  refine jr_iconst (pc := 935) F dL_law_935 ?_
  refine jr_iadd (pc := 936) F dL_law_936 ?_
  rw [e1]
  refine jr_sld (pc := 937) F hX g1 hL dL_law_937 ?_
  refine jr_callV (pc := 938) (st := [iv x]) F [iv (sc xs (i + 1))] (snd_X5_strongest (g0 := L1) (rg_i32 _) (Q := fun z => z = (x, M')) ⟨_, o2, rfl⟩) rfl ck_L_112 rfl m4_0 rfl rfl rfl (by decide) (Nat.le_of_ble_eq_true rfl) dL_law_938 rfl (fun v g' hq => ?_)
  obtain ⟨y, L2, rfl, r2, eg2, hz2⟩ := hq
  obtain ⟨rfl, rfl⟩ := Prod.mk.inj hz2
  refine J_eq eg2 ?_
  show J X 941 [(0, .ref b), (1, .ref (xad X (0, 0, 0))), (2, .ref (xad X (4, 0, 0))), (3, iv i)] [iv y, iv y] (gs L1 4 0 L2)
  refine jr_icmp_eq (pc := 941) (tgt := 1492) F r1 r1 dL_law_941 (by decide) (fun _ => ?_) (fun q => absurd rfl q)
  exact hN _ _ hR'
set_option maxHeartbeats 4000000 in
set_option maxRecDepth 100000 in
theorem law_case24 {X : Cx} (F : FX X code RL 4 ret SL 9) {b L : Nat} {xs : Nat → Int32} (hL : L ≤ 2147483648) (hX : LX X b L xs) {i : Int} (C : GG) (M : LT) (hR : Rel C M) (e1 : w32 (i + 1) = i + 1) (e2 : w32 (i + 2) = i + 2) (e3 : w32 (i + 3) = i + 3) (g1 : gd (i + 1) (L : Int)) (g2 : gd (i + 2) (L : Int)) (g3 : gd (i + 3) (L : Int)) (hN : ∀ (C : GG) (M : LT), Rel C M → J X 1492 [(0, .ref b), (1, .ref (xad X (0, 0, 0))), (2, .ref (xad X (4, 0, 0))), (3, iv i)] [] (gs C 4 0 M)) : J X 946 [(0, .ref b), (1, .ref (xad X (0, 0, 0))), (2, .ref (xad X (4, 0, 0))), (3, iv i)] [] (gs C 4 0 M) := by
  obtain ⟨r, C', M', o1, o2, hR'⟩ := op_order C M hR (sc xs (i + 1)) (rg_i32 _)
  refine jr_aload_n (pc := 946) F 1 dL_law_946 rfl rfl ?_
  refine jr_aload_n (pc := 947) F 0 dL_law_947 rfl rfl ?_
  refine jr_iload_n (pc := 948) F 3 dL_law_948 rfl rfl ?_
  refine jr_iconst (pc := 949) F dL_law_949 ?_
  refine jr_iadd (pc := 950) F dL_law_950 ?_
  rw [e1]
  refine jr_sld (pc := 951) F hX g1 hL dL_law_951 ?_
  refine jr_callV (pc := 952) (st := []) F [iv (sc xs (i + 1))] (snd_X4_order (M := M) (rg_i32 _) (Q := fun z => z = (r, C')) ⟨_, o1, rfl⟩) rfl ck_L_113 rfl m0_0 rfl rfl rfl (by decide) (Nat.le_of_ble_eq_true rfl) dL_law_952 rfl (fun v g' hq => ?_)
  obtain ⟨x, L1, rfl, r1, eg, hz⟩ := hq
  obtain ⟨rfl, rfl⟩ := Prod.mk.inj hz
  refine J_eq eg ?_
  show J X 955 [(0, .ref b), (1, .ref (xad X (0, 0, 0))), (2, .ref (xad X (4, 0, 0))), (3, iv i)] [iv x] (gs L1 4 0 M)
  refine jr_aload_n (pc := 955) F 2 dL_law_955 rfl rfl ?_
  refine jr_aload_n (pc := 956) F 0 dL_law_956 rfl rfl ?_
  refine jr_iload_n (pc := 957) F 3 dL_law_957 rfl rfl ?_
  refine jr_iconst (pc := 958) F dL_law_958 ?_
  refine jr_iadd (pc := 959) F dL_law_959 ?_
  rw [e1]
  refine jr_sld (pc := 960) F hX g1 hL dL_law_960 ?_
  refine jr_callV (pc := 961) (st := [iv x]) F [iv (sc xs (i + 1))] (snd_X5_order (g0 := L1) (rg_i32 _) (Q := fun z => z = (x, M')) ⟨_, o2, rfl⟩) rfl ck_L_116 rfl m4_0 rfl rfl rfl (by decide) (Nat.le_of_ble_eq_true rfl) dL_law_961 rfl (fun v g' hq => ?_)
  obtain ⟨y, L2, rfl, r2, eg2, hz2⟩ := hq
  obtain ⟨rfl, rfl⟩ := Prod.mk.inj hz2
  refine J_eq eg2 ?_
  show J X 964 [(0, .ref b), (1, .ref (xad X (0, 0, 0))), (2, .ref (xad X (4, 0, 0))), (3, iv i)] [iv y, iv y] (gs L1 4 0 L2)
  refine jr_icmp_eq (pc := 964) (tgt := 1492) F r1 r1 dL_law_964 (by decide) (fun _ => ?_) (fun q => absurd rfl q)
  exact hN _ _ hR'
set_option maxHeartbeats 4000000 in
set_option maxRecDepth 100000 in
theorem law_case25 {X : Cx} (F : FX X code RL 4 ret SL 9) {b L : Nat} {xs : Nat → Int32} (hL : L ≤ 2147483648) (hX : LX X b L xs) {i : Int} (C : GG) (M : LT) (hR : Rel C M) (e1 : w32 (i + 1) = i + 1) (e2 : w32 (i + 2) = i + 2) (e3 : w32 (i + 3) = i + 3) (g1 : gd (i + 1) (L : Int)) (g2 : gd (i + 2) (L : Int)) (g3 : gd (i + 3) (L : Int)) (hN : ∀ (C : GG) (M : LT), Rel C M → J X 1492 [(0, .ref b), (1, .ref (xad X (0, 0, 0))), (2, .ref (xad X (4, 0, 0))), (3, iv i)] [] (gs C 4 0 M)) : J X 969 [(0, .ref b), (1, .ref (xad X (0, 0, 0))), (2, .ref (xad X (4, 0, 0))), (3, iv i)] [] (gs C 4 0 M) := by
  obtain ⟨r, C', M', o1, o2, hR'⟩ := op_timetable C M hR (sc xs (i + 1)) (sc xs (i + 2)) (rg_i32 _) (rg_i32 _)
  refine jr_aload_n (pc := 969) F 1 dL_law_969 rfl rfl ?_
  refine jr_aload_n (pc := 970) F 0 dL_law_970 rfl rfl ?_
  refine jr_iload_n (pc := 971) F 3 dL_law_971 rfl rfl ?_
  refine jr_iconst (pc := 972) F dL_law_972 ?_
  refine jr_iadd (pc := 973) F dL_law_973 ?_
  rw [e1]
  refine jr_sld (pc := 974) F hX g1 hL dL_law_974 ?_
  refine jr_aload_n (pc := 975) F 0 dL_law_975 rfl rfl ?_
  refine jr_iload_n (pc := 976) F 3 dL_law_976 rfl rfl ?_
  refine jr_iconst (pc := 977) F dL_law_977 ?_
  refine jr_iadd (pc := 978) F dL_law_978 ?_
  rw [e2]
  refine jr_sld (pc := 979) F hX g2 hL dL_law_979 ?_
  refine jr_callV (pc := 980) (st := []) F [iv (sc xs (i + 1)), iv (sc xs (i + 2))] (snd_X4_timetable (M := M) (rg_i32 _) (rg_i32 _) (Q := fun z => z = (r, C')) ⟨_, o1, rfl⟩) rfl ck_L_117 rfl m0_0 rfl rfl rfl (by decide) (Nat.le_of_ble_eq_true rfl) dL_law_980 rfl (fun v g' hq => ?_)
  obtain ⟨x, L1, rfl, r1, eg, hz⟩ := hq
  obtain ⟨rfl, rfl⟩ := Prod.mk.inj hz
  refine J_eq eg ?_
  show J X 983 [(0, .ref b), (1, .ref (xad X (0, 0, 0))), (2, .ref (xad X (4, 0, 0))), (3, iv i)] [iv x] (gs L1 4 0 M)
  refine jr_aload_n (pc := 983) F 2 dL_law_983 rfl rfl ?_
  refine jr_aload_n (pc := 984) F 0 dL_law_984 rfl rfl ?_
  refine jr_iload_n (pc := 985) F 3 dL_law_985 rfl rfl ?_
  refine jr_iconst (pc := 986) F dL_law_986 ?_
  refine jr_iadd (pc := 987) F dL_law_987 ?_
  rw [e1]
  refine jr_sld (pc := 988) F hX g1 hL dL_law_988 ?_
  refine jr_aload_n (pc := 989) F 0 dL_law_989 rfl rfl ?_
  refine jr_iload_n (pc := 990) F 3 dL_law_990 rfl rfl ?_
  refine jr_iconst (pc := 991) F dL_law_991 ?_
  refine jr_iadd (pc := 992) F dL_law_992 ?_
  rw [e2]
  refine jr_sld (pc := 993) F hX g2 hL dL_law_993 ?_
  refine jr_callV (pc := 994) (st := [iv x]) F [iv (sc xs (i + 1)), iv (sc xs (i + 2))] (snd_X5_timetable (g0 := L1) (rg_i32 _) (rg_i32 _) (Q := fun z => z = (x, M')) ⟨_, o2, rfl⟩) rfl ck_L_120 rfl m4_0 rfl rfl rfl (by decide) (Nat.le_of_ble_eq_true rfl) dL_law_994 rfl (fun v g' hq => ?_)
  obtain ⟨y, L2, rfl, r2, eg2, hz2⟩ := hq
  obtain ⟨rfl, rfl⟩ := Prod.mk.inj hz2
  refine J_eq eg2 ?_
  show J X 997 [(0, .ref b), (1, .ref (xad X (0, 0, 0))), (2, .ref (xad X (4, 0, 0))), (3, iv i)] [iv y, iv y] (gs L1 4 0 L2)
  refine jr_icmp_eq (pc := 997) (tgt := 1492) F r1 r1 dL_law_997 (by decide) (fun _ => ?_) (fun q => absurd rfl q)
  exact hN _ _ hR'
set_option maxHeartbeats 4000000 in
set_option maxRecDepth 100000 in
theorem law_case26 {X : Cx} (F : FX X code RL 4 ret SL 9) {b L : Nat} {xs : Nat → Int32} (hL : L ≤ 2147483648) (hX : LX X b L xs) {i : Int} (C : GG) (M : LT) (hR : Rel C M) (e1 : w32 (i + 1) = i + 1) (e2 : w32 (i + 2) = i + 2) (e3 : w32 (i + 3) = i + 3) (g1 : gd (i + 1) (L : Int)) (g2 : gd (i + 2) (L : Int)) (g3 : gd (i + 3) (L : Int)) (hN : ∀ (C : GG) (M : LT), Rel C M → J X 1492 [(0, .ref b), (1, .ref (xad X (0, 0, 0))), (2, .ref (xad X (4, 0, 0))), (3, iv i)] [] (gs C 4 0 M)) : J X 1002 [(0, .ref b), (1, .ref (xad X (0, 0, 0))), (2, .ref (xad X (4, 0, 0))), (3, iv i)] [] (gs C 4 0 M) := by
  obtain ⟨r, M', o1, o2, hR'⟩ := op_said C M hR  
  refine jr_aload_n (pc := 1002) F 1 dL_law_1002 rfl rfl ?_
  refine jr_callV (pc := 1003) (st := []) F [] (snd_X4_said (M := M)  (Q := fun z => z = r) ⟨_, o1, rfl⟩) rfl ck_L_121 rfl m0_0 rfl rfl rfl (by decide) (Nat.le_of_ble_eq_true rfl) dL_law_1003 rfl (fun v g' hq => ?_)
  obtain ⟨x, rfl, r1, eg, hz⟩ := hq
  subst hz
  refine J_eq eg ?_
  show J X 1006 [(0, .ref b), (1, .ref (xad X (0, 0, 0))), (2, .ref (xad X (4, 0, 0))), (3, iv i)] [iv x] (gs C 4 0 M)
  refine jr_aload_n (pc := 1006) F 2 dL_law_1006 rfl rfl ?_
  refine jr_callV (pc := 1007) (st := [iv x]) F [] (snd_X5_said (g0 := C)  (Q := fun z => z = (x, M')) ⟨_, o2, rfl⟩) rfl ck_L_124 rfl m4_0 rfl rfl rfl (by decide) (Nat.le_of_ble_eq_true rfl) dL_law_1007 rfl (fun v g' hq => ?_)
  obtain ⟨y, L2, rfl, r2, eg2, hz2⟩ := hq
  obtain ⟨rfl, rfl⟩ := Prod.mk.inj hz2
  refine J_eq eg2 ?_
  show J X 1010 [(0, .ref b), (1, .ref (xad X (0, 0, 0))), (2, .ref (xad X (4, 0, 0))), (3, iv i)] [iv y, iv y] (gs C 4 0 L2)
  refine jr_icmp_eq (pc := 1010) (tgt := 1492) F r1 r1 dL_law_1010 (by decide) (fun _ => ?_) (fun q => absurd rfl q)
  exact hN _ _ hR'
set_option maxHeartbeats 4000000 in
set_option maxRecDepth 100000 in
theorem law_case27 {X : Cx} (F : FX X code RL 4 ret SL 9) {b L : Nat} {xs : Nat → Int32} (hL : L ≤ 2147483648) (hX : LX X b L xs) {i : Int} (C : GG) (M : LT) (hR : Rel C M) (e1 : w32 (i + 1) = i + 1) (e2 : w32 (i + 2) = i + 2) (e3 : w32 (i + 3) = i + 3) (g1 : gd (i + 1) (L : Int)) (g2 : gd (i + 2) (L : Int)) (g3 : gd (i + 3) (L : Int)) (hN : ∀ (C : GG) (M : LT), Rel C M → J X 1492 [(0, .ref b), (1, .ref (xad X (0, 0, 0))), (2, .ref (xad X (4, 0, 0))), (3, iv i)] [] (gs C 4 0 M)) : J X 1015 [(0, .ref b), (1, .ref (xad X (0, 0, 0))), (2, .ref (xad X (4, 0, 0))), (3, iv i)] [] (gs C 4 0 M) := by
  obtain ⟨r, M', o1, o2, hR'⟩ := op_lies C M hR  
  refine jr_aload_n (pc := 1015) F 1 dL_law_1015 rfl rfl ?_
  refine jr_callV (pc := 1016) (st := []) F [] (snd_X4_lies (M := M)  (Q := fun z => z = r) ⟨_, o1, rfl⟩) rfl ck_L_125 rfl m0_0 rfl rfl rfl (by decide) (Nat.le_of_ble_eq_true rfl) dL_law_1016 rfl (fun v g' hq => ?_)
  obtain ⟨x, rfl, r1, eg, hz⟩ := hq
  subst hz
  refine J_eq eg ?_
  show J X 1019 [(0, .ref b), (1, .ref (xad X (0, 0, 0))), (2, .ref (xad X (4, 0, 0))), (3, iv i)] [iv x] (gs C 4 0 M)
  refine jr_aload_n (pc := 1019) F 2 dL_law_1019 rfl rfl ?_
  refine jr_callV (pc := 1020) (st := [iv x]) F [] (snd_X5_lies (g0 := C)  (Q := fun z => z = (x, M')) ⟨_, o2, rfl⟩) rfl ck_L_128 rfl m4_0 rfl rfl rfl (by decide) (Nat.le_of_ble_eq_true rfl) dL_law_1020 rfl (fun v g' hq => ?_)
  obtain ⟨y, L2, rfl, r2, eg2, hz2⟩ := hq
  obtain ⟨rfl, rfl⟩ := Prod.mk.inj hz2
  refine J_eq eg2 ?_
  show J X 1023 [(0, .ref b), (1, .ref (xad X (0, 0, 0))), (2, .ref (xad X (4, 0, 0))), (3, iv i)] [iv y, iv y] (gs C 4 0 L2)
  refine jr_icmp_eq (pc := 1023) (tgt := 1492) F r1 r1 dL_law_1023 (by decide) (fun _ => ?_) (fun q => absurd rfl q)
  exact hN _ _ hR'
set_option maxHeartbeats 4000000 in
set_option maxRecDepth 100000 in
theorem law_case28 {X : Cx} (F : FX X code RL 4 ret SL 9) {b L : Nat} {xs : Nat → Int32} (hL : L ≤ 2147483648) (hX : LX X b L xs) {i : Int} (C : GG) (M : LT) (hR : Rel C M) (e1 : w32 (i + 1) = i + 1) (e2 : w32 (i + 2) = i + 2) (e3 : w32 (i + 3) = i + 3) (g1 : gd (i + 1) (L : Int)) (g2 : gd (i + 2) (L : Int)) (g3 : gd (i + 3) (L : Int)) (hN : ∀ (C : GG) (M : LT), Rel C M → J X 1492 [(0, .ref b), (1, .ref (xad X (0, 0, 0))), (2, .ref (xad X (4, 0, 0))), (3, iv i)] [] (gs C 4 0 M)) : J X 1028 [(0, .ref b), (1, .ref (xad X (0, 0, 0))), (2, .ref (xad X (4, 0, 0))), (3, iv i)] [] (gs C 4 0 M) := by
  obtain ⟨r, M', o1, o2, hR'⟩ := op_tells C M hR  
  refine jr_aload_n (pc := 1028) F 1 dL_law_1028 rfl rfl ?_
  refine jr_callV (pc := 1029) (st := []) F [] (snd_X4_tells (M := M)  (Q := fun z => z = r) ⟨_, o1, rfl⟩) rfl ck_L_129 rfl m0_0 rfl rfl rfl (by decide) (Nat.le_of_ble_eq_true rfl) dL_law_1029 rfl (fun v g' hq => ?_)
  obtain ⟨x, rfl, r1, eg, hz⟩ := hq
  subst hz
  refine J_eq eg ?_
  show J X 1032 [(0, .ref b), (1, .ref (xad X (0, 0, 0))), (2, .ref (xad X (4, 0, 0))), (3, iv i)] [iv x] (gs C 4 0 M)
  refine jr_aload_n (pc := 1032) F 2 dL_law_1032 rfl rfl ?_
  refine jr_callV (pc := 1033) (st := [iv x]) F [] (snd_X5_tells (g0 := C)  (Q := fun z => z = (x, M')) ⟨_, o2, rfl⟩) rfl ck_L_132 rfl m4_0 rfl rfl rfl (by decide) (Nat.le_of_ble_eq_true rfl) dL_law_1033 rfl (fun v g' hq => ?_)
  obtain ⟨y, L2, rfl, r2, eg2, hz2⟩ := hq
  obtain ⟨rfl, rfl⟩ := Prod.mk.inj hz2
  refine J_eq eg2 ?_
  show J X 1036 [(0, .ref b), (1, .ref (xad X (0, 0, 0))), (2, .ref (xad X (4, 0, 0))), (3, iv i)] [iv y, iv y] (gs C 4 0 L2)
  refine jr_icmp_eq (pc := 1036) (tgt := 1492) F r1 r1 dL_law_1036 (by decide) (fun _ => ?_) (fun q => absurd rfl q)
  exact hN _ _ hR'
set_option maxHeartbeats 4000000 in
set_option maxRecDepth 100000 in
theorem law_case29 {X : Cx} (F : FX X code RL 4 ret SL 9) {b L : Nat} {xs : Nat → Int32} (hL : L ≤ 2147483648) (hX : LX X b L xs) {i : Int} (C : GG) (M : LT) (hR : Rel C M) (e1 : w32 (i + 1) = i + 1) (e2 : w32 (i + 2) = i + 2) (e3 : w32 (i + 3) = i + 3) (g1 : gd (i + 1) (L : Int)) (g2 : gd (i + 2) (L : Int)) (g3 : gd (i + 3) (L : Int)) (hN : ∀ (C : GG) (M : LT), Rel C M → J X 1492 [(0, .ref b), (1, .ref (xad X (0, 0, 0))), (2, .ref (xad X (4, 0, 0))), (3, iv i)] [] (gs C 4 0 M)) : J X 1041 [(0, .ref b), (1, .ref (xad X (0, 0, 0))), (2, .ref (xad X (4, 0, 0))), (3, iv i)] [] (gs C 4 0 M) := by
  obtain ⟨r, C', M', o1, o2, hR'⟩ := op_near C M hR (sc xs (i + 1)) (rg_i32 _)
  refine jr_aload_n (pc := 1041) F 1 dL_law_1041 rfl rfl ?_
  refine jr_aload_n (pc := 1042) F 0 dL_law_1042 rfl rfl ?_
  refine jr_iload_n (pc := 1043) F 3 dL_law_1043 rfl rfl ?_
  refine jr_iconst (pc := 1044) F dL_law_1044 ?_
  refine jr_iadd (pc := 1045) F dL_law_1045 ?_
  rw [e1]
  refine jr_sld (pc := 1046) F hX g1 hL dL_law_1046 ?_
  refine jr_callV (pc := 1047) (st := []) F [iv (sc xs (i + 1))] (snd_X4_near (M := M) (rg_i32 _) (Q := fun z => z = (r, C')) ⟨_, o1, rfl⟩) rfl ck_L_133 rfl m0_0 rfl rfl rfl (by decide) (Nat.le_of_ble_eq_true rfl) dL_law_1047 rfl (fun v g' hq => ?_)
  obtain ⟨x, L1, rfl, r1, eg, hz⟩ := hq
  obtain ⟨rfl, rfl⟩ := Prod.mk.inj hz
  refine J_eq eg ?_
  show J X 1050 [(0, .ref b), (1, .ref (xad X (0, 0, 0))), (2, .ref (xad X (4, 0, 0))), (3, iv i)] [iv x] (gs L1 4 0 M)
  refine jr_aload_n (pc := 1050) F 2 dL_law_1050 rfl rfl ?_
  refine jr_aload_n (pc := 1051) F 0 dL_law_1051 rfl rfl ?_
  refine jr_iload_n (pc := 1052) F 3 dL_law_1052 rfl rfl ?_
  refine jr_iconst (pc := 1053) F dL_law_1053 ?_
  refine jr_iadd (pc := 1054) F dL_law_1054 ?_
  rw [e1]
  refine jr_sld (pc := 1055) F hX g1 hL dL_law_1055 ?_
  refine jr_callV (pc := 1056) (st := [iv x]) F [iv (sc xs (i + 1))] (snd_X5_near (g0 := L1) (rg_i32 _) (Q := fun z => z = (x, M')) ⟨_, o2, rfl⟩) rfl ck_L_136 rfl m4_0 rfl rfl rfl (by decide) (Nat.le_of_ble_eq_true rfl) dL_law_1056 rfl (fun v g' hq => ?_)
  obtain ⟨y, L2, rfl, r2, eg2, hz2⟩ := hq
  obtain ⟨rfl, rfl⟩ := Prod.mk.inj hz2
  refine J_eq eg2 ?_
  show J X 1059 [(0, .ref b), (1, .ref (xad X (0, 0, 0))), (2, .ref (xad X (4, 0, 0))), (3, iv i)] [iv y, iv y] (gs L1 4 0 L2)
  refine jr_icmp_eq (pc := 1059) (tgt := 1492) F r1 r1 dL_law_1059 (by decide) (fun _ => ?_) (fun q => absurd rfl q)
  exact hN _ _ hR'
set_option maxHeartbeats 4000000 in
set_option maxRecDepth 100000 in
theorem law_case30 {X : Cx} (F : FX X code RL 4 ret SL 9) {b L : Nat} {xs : Nat → Int32} (hL : L ≤ 2147483648) (hX : LX X b L xs) {i : Int} (C : GG) (M : LT) (hR : Rel C M) (e1 : w32 (i + 1) = i + 1) (e2 : w32 (i + 2) = i + 2) (e3 : w32 (i + 3) = i + 3) (g1 : gd (i + 1) (L : Int)) (g2 : gd (i + 2) (L : Int)) (g3 : gd (i + 3) (L : Int)) (hN : ∀ (C : GG) (M : LT), Rel C M → J X 1492 [(0, .ref b), (1, .ref (xad X (0, 0, 0))), (2, .ref (xad X (4, 0, 0))), (3, iv i)] [] (gs C 4 0 M)) : J X 1064 [(0, .ref b), (1, .ref (xad X (0, 0, 0))), (2, .ref (xad X (4, 0, 0))), (3, iv i)] [] (gs C 4 0 M) := by
  obtain ⟨r, C', M', o1, o2, hR'⟩ := op_rescue C M hR (sc xs (i + 1)) (rg_i32 _)
  refine jr_aload_n (pc := 1064) F 1 dL_law_1064 rfl rfl ?_
  refine jr_aload_n (pc := 1065) F 0 dL_law_1065 rfl rfl ?_
  refine jr_iload_n (pc := 1066) F 3 dL_law_1066 rfl rfl ?_
  refine jr_iconst (pc := 1067) F dL_law_1067 ?_
  refine jr_iadd (pc := 1068) F dL_law_1068 ?_
  rw [e1]
  refine jr_sld (pc := 1069) F hX g1 hL dL_law_1069 ?_
  refine jr_callV (pc := 1070) (st := []) F [iv (sc xs (i + 1))] (snd_X4_rescue (M := M) (rg_i32 _) (Q := fun z => z = (r, C')) ⟨_, o1, rfl⟩) rfl ck_L_137 rfl m0_0 rfl rfl rfl (by decide) (Nat.le_of_ble_eq_true rfl) dL_law_1070 rfl (fun v g' hq => ?_)
  obtain ⟨x, L1, rfl, r1, eg, hz⟩ := hq
  obtain ⟨rfl, rfl⟩ := Prod.mk.inj hz
  refine J_eq eg ?_
  show J X 1073 [(0, .ref b), (1, .ref (xad X (0, 0, 0))), (2, .ref (xad X (4, 0, 0))), (3, iv i)] [iv x] (gs L1 4 0 M)
  refine jr_aload_n (pc := 1073) F 2 dL_law_1073 rfl rfl ?_
  refine jr_aload_n (pc := 1074) F 0 dL_law_1074 rfl rfl ?_
  refine jr_iload_n (pc := 1075) F 3 dL_law_1075 rfl rfl ?_
  refine jr_iconst (pc := 1076) F dL_law_1076 ?_
  refine jr_iadd (pc := 1077) F dL_law_1077 ?_
  rw [e1]
  refine jr_sld (pc := 1078) F hX g1 hL dL_law_1078 ?_
  refine jr_callV (pc := 1079) (st := [iv x]) F [iv (sc xs (i + 1))] (snd_X5_rescue (g0 := L1) (rg_i32 _) (Q := fun z => z = (x, M')) ⟨_, o2, rfl⟩) rfl ck_L_140 rfl m4_0 rfl rfl rfl (by decide) (Nat.le_of_ble_eq_true rfl) dL_law_1079 rfl (fun v g' hq => ?_)
  obtain ⟨y, L2, rfl, r2, eg2, hz2⟩ := hq
  obtain ⟨rfl, rfl⟩ := Prod.mk.inj hz2
  refine J_eq eg2 ?_
  show J X 1082 [(0, .ref b), (1, .ref (xad X (0, 0, 0))), (2, .ref (xad X (4, 0, 0))), (3, iv i)] [iv y, iv y] (gs L1 4 0 L2)
  refine jr_icmp_eq (pc := 1082) (tgt := 1492) F r1 r1 dL_law_1082 (by decide) (fun _ => ?_) (fun q => absurd rfl q)
  exact hN _ _ hR'
set_option maxHeartbeats 4000000 in
set_option maxRecDepth 100000 in
theorem law_case31 {X : Cx} (F : FX X code RL 4 ret SL 9) {b L : Nat} {xs : Nat → Int32} (hL : L ≤ 2147483648) (hX : LX X b L xs) {i : Int} (C : GG) (M : LT) (hR : Rel C M) (e1 : w32 (i + 1) = i + 1) (e2 : w32 (i + 2) = i + 2) (e3 : w32 (i + 3) = i + 3) (g1 : gd (i + 1) (L : Int)) (g2 : gd (i + 2) (L : Int)) (g3 : gd (i + 3) (L : Int)) (hN : ∀ (C : GG) (M : LT), Rel C M → J X 1492 [(0, .ref b), (1, .ref (xad X (0, 0, 0))), (2, .ref (xad X (4, 0, 0))), (3, iv i)] [] (gs C 4 0 M)) : J X 1087 [(0, .ref b), (1, .ref (xad X (0, 0, 0))), (2, .ref (xad X (4, 0, 0))), (3, iv i)] [] (gs C 4 0 M) := by
  obtain ⟨r, C', M', o1, o2, hR'⟩ := op_march C M hR (sc xs (i + 1)) (rg_i32 _)
  refine jr_aload_n (pc := 1087) F 1 dL_law_1087 rfl rfl ?_
  refine jr_aload_n (pc := 1088) F 0 dL_law_1088 rfl rfl ?_
  refine jr_iload_n (pc := 1089) F 3 dL_law_1089 rfl rfl ?_
  refine jr_iconst (pc := 1090) F dL_law_1090 ?_
  refine jr_iadd (pc := 1091) F dL_law_1091 ?_
  rw [e1]
  refine jr_sld (pc := 1092) F hX g1 hL dL_law_1092 ?_
  refine jr_callV (pc := 1093) (st := []) F [iv (sc xs (i + 1))] (snd_X4_march (M := M) (rg_i32 _) (Q := fun z => z = (r, C')) ⟨_, o1, rfl⟩) rfl ck_L_141 rfl m0_0 rfl rfl rfl (by decide) (Nat.le_of_ble_eq_true rfl) dL_law_1093 rfl (fun v g' hq => ?_)
  obtain ⟨x, L1, rfl, r1, eg, hz⟩ := hq
  obtain ⟨rfl, rfl⟩ := Prod.mk.inj hz
  refine J_eq eg ?_
  show J X 1096 [(0, .ref b), (1, .ref (xad X (0, 0, 0))), (2, .ref (xad X (4, 0, 0))), (3, iv i)] [iv x] (gs L1 4 0 M)
  refine jr_aload_n (pc := 1096) F 2 dL_law_1096 rfl rfl ?_
  refine jr_aload_n (pc := 1097) F 0 dL_law_1097 rfl rfl ?_
  refine jr_iload_n (pc := 1098) F 3 dL_law_1098 rfl rfl ?_
  refine jr_iconst (pc := 1099) F dL_law_1099 ?_
  refine jr_iadd (pc := 1100) F dL_law_1100 ?_
  rw [e1]
  refine jr_sld (pc := 1101) F hX g1 hL dL_law_1101 ?_
  refine jr_callV (pc := 1102) (st := [iv x]) F [iv (sc xs (i + 1))] (snd_X5_march (g0 := L1) (rg_i32 _) (Q := fun z => z = (x, M')) ⟨_, o2, rfl⟩) rfl ck_L_144 rfl m4_0 rfl rfl rfl (by decide) (Nat.le_of_ble_eq_true rfl) dL_law_1102 rfl (fun v g' hq => ?_)
  obtain ⟨y, L2, rfl, r2, eg2, hz2⟩ := hq
  obtain ⟨rfl, rfl⟩ := Prod.mk.inj hz2
  refine J_eq eg2 ?_
  show J X 1105 [(0, .ref b), (1, .ref (xad X (0, 0, 0))), (2, .ref (xad X (4, 0, 0))), (3, iv i)] [iv y, iv y] (gs L1 4 0 L2)
  refine jr_icmp_eq (pc := 1105) (tgt := 1492) F r1 r1 dL_law_1105 (by decide) (fun _ => ?_) (fun q => absurd rfl q)
  exact hN _ _ hR'
set_option maxHeartbeats 4000000 in
set_option maxRecDepth 100000 in
theorem law_case32 {X : Cx} (F : FX X code RL 4 ret SL 9) {b L : Nat} {xs : Nat → Int32} (hL : L ≤ 2147483648) (hX : LX X b L xs) {i : Int} (C : GG) (M : LT) (hR : Rel C M) (e1 : w32 (i + 1) = i + 1) (e2 : w32 (i + 2) = i + 2) (e3 : w32 (i + 3) = i + 3) (g1 : gd (i + 1) (L : Int)) (g2 : gd (i + 2) (L : Int)) (g3 : gd (i + 3) (L : Int)) (hN : ∀ (C : GG) (M : LT), Rel C M → J X 1492 [(0, .ref b), (1, .ref (xad X (0, 0, 0))), (2, .ref (xad X (4, 0, 0))), (3, iv i)] [] (gs C 4 0 M)) : J X 1110 [(0, .ref b), (1, .ref (xad X (0, 0, 0))), (2, .ref (xad X (4, 0, 0))), (3, iv i)] [] (gs C 4 0 M) := by
  obtain ⟨r, C', M', o1, o2, hR'⟩ := op_noons C M hR (sc xs (i + 1)) (sc xs (i + 2)) (rg_i32 _) (rg_i32 _)
  refine jr_aload_n (pc := 1110) F 1 dL_law_1110 rfl rfl ?_
  refine jr_aload_n (pc := 1111) F 0 dL_law_1111 rfl rfl ?_
  refine jr_iload_n (pc := 1112) F 3 dL_law_1112 rfl rfl ?_
  refine jr_iconst (pc := 1113) F dL_law_1113 ?_
  refine jr_iadd (pc := 1114) F dL_law_1114 ?_
  rw [e1]
  refine jr_sld (pc := 1115) F hX g1 hL dL_law_1115 ?_
  refine jr_aload_n (pc := 1116) F 0 dL_law_1116 rfl rfl ?_
  refine jr_iload_n (pc := 1117) F 3 dL_law_1117 rfl rfl ?_
  refine jr_iconst (pc := 1118) F dL_law_1118 ?_
  refine jr_iadd (pc := 1119) F dL_law_1119 ?_
  rw [e2]
  refine jr_sld (pc := 1120) F hX g2 hL dL_law_1120 ?_
  refine jr_callV (pc := 1121) (st := []) F [iv (sc xs (i + 1)), iv (sc xs (i + 2))] (snd_X4_noons (M := M) (rg_i32 _) (rg_i32 _) (Q := fun z => z = (r, C')) ⟨_, o1, rfl⟩) rfl ck_L_145 rfl m0_0 rfl rfl rfl (by decide) (Nat.le_of_ble_eq_true rfl) dL_law_1121 rfl (fun v g' hq => ?_)
  obtain ⟨x, L1, rfl, r1, eg, hz⟩ := hq
  obtain ⟨rfl, rfl⟩ := Prod.mk.inj hz
  refine J_eq eg ?_
  show J X 1124 [(0, .ref b), (1, .ref (xad X (0, 0, 0))), (2, .ref (xad X (4, 0, 0))), (3, iv i)] [lgv x] (gs L1 4 0 M)
  refine jr_aload_n (pc := 1124) F 2 dL_law_1124 rfl rfl ?_
  refine jr_aload_n (pc := 1125) F 0 dL_law_1125 rfl rfl ?_
  refine jr_iload_n (pc := 1126) F 3 dL_law_1126 rfl rfl ?_
  refine jr_iconst (pc := 1127) F dL_law_1127 ?_
  refine jr_iadd (pc := 1128) F dL_law_1128 ?_
  rw [e1]
  refine jr_sld (pc := 1129) F hX g1 hL dL_law_1129 ?_
  refine jr_aload_n (pc := 1130) F 0 dL_law_1130 rfl rfl ?_
  refine jr_iload_n (pc := 1131) F 3 dL_law_1131 rfl rfl ?_
  refine jr_iconst (pc := 1132) F dL_law_1132 ?_
  refine jr_iadd (pc := 1133) F dL_law_1133 ?_
  rw [e2]
  refine jr_sld (pc := 1134) F hX g2 hL dL_law_1134 ?_
  refine jr_callV (pc := 1135) (st := [lgv x]) F [iv (sc xs (i + 1)), iv (sc xs (i + 2))] (snd_X5_noons (g0 := L1) (rg_i32 _) (rg_i32 _) (Q := fun z => z = (x, M')) ⟨_, o2, rfl⟩) rfl ck_L_149 rfl m4_0 rfl rfl rfl (by decide) (Nat.le_of_ble_eq_true rfl) dL_law_1135 rfl (fun v g' hq => ?_)
  obtain ⟨y, L2, rfl, r2, eg2, hz2⟩ := hq
  obtain ⟨rfl, rfl⟩ := Prod.mk.inj hz2
  refine J_eq eg2 ?_
  show J X 1138 [(0, .ref b), (1, .ref (xad X (0, 0, 0))), (2, .ref (xad X (4, 0, 0))), (3, iv i)] [lgv y, lgv y] (gs L1 4 0 L2)
  refine jr_lcmp_eq (pc := 1138) (tgt := 1492) F r1 r1 dL_law_1138 dL_law_1139 (by decide) (fun _ => ?_) (fun q => absurd rfl q)
  exact hN _ _ hR'
set_option maxHeartbeats 4000000 in
set_option maxRecDepth 100000 in
theorem law_case33 {X : Cx} (F : FX X code RL 4 ret SL 9) {b L : Nat} {xs : Nat → Int32} (hL : L ≤ 2147483648) (hX : LX X b L xs) {i : Int} (C : GG) (M : LT) (hR : Rel C M) (e1 : w32 (i + 1) = i + 1) (e2 : w32 (i + 2) = i + 2) (e3 : w32 (i + 3) = i + 3) (g1 : gd (i + 1) (L : Int)) (g2 : gd (i + 2) (L : Int)) (g3 : gd (i + 3) (L : Int)) (hN : ∀ (C : GG) (M : LT), Rel C M → J X 1492 [(0, .ref b), (1, .ref (xad X (0, 0, 0))), (2, .ref (xad X (4, 0, 0))), (3, iv i)] [] (gs C 4 0 M)) : J X 1144 [(0, .ref b), (1, .ref (xad X (0, 0, 0))), (2, .ref (xad X (4, 0, 0))), (3, iv i)] [] (gs C 4 0 M) := by
  obtain ⟨r, C', M', o1, o2, hR'⟩ := op_thaw C M hR  
  refine jr_aload_n (pc := 1144) F 1 dL_law_1144 rfl rfl ?_
  refine jr_callV (pc := 1145) (st := []) F [] (snd_X4_thaw (M := M)  (Q := fun z => z = (r, C')) ⟨_, o1, rfl⟩) rfl ck_L_150 rfl m0_0 rfl rfl rfl (by decide) (Nat.le_of_ble_eq_true rfl) dL_law_1145 rfl (fun v g' hq => ?_)
  obtain ⟨x, L1, rfl, r1, eg, hz⟩ := hq
  obtain ⟨rfl, rfl⟩ := Prod.mk.inj hz
  refine J_eq eg ?_
  show J X 1148 [(0, .ref b), (1, .ref (xad X (0, 0, 0))), (2, .ref (xad X (4, 0, 0))), (3, iv i)] [iv x] (gs L1 4 0 M)
  refine jr_aload_n (pc := 1148) F 2 dL_law_1148 rfl rfl ?_
  refine jr_callV (pc := 1149) (st := [iv x]) F [] (snd_X5_thaw (g0 := L1)  (Q := fun z => z = (x, M')) ⟨_, o2, rfl⟩) rfl ck_L_153 rfl m4_0 rfl rfl rfl (by decide) (Nat.le_of_ble_eq_true rfl) dL_law_1149 rfl (fun v g' hq => ?_)
  obtain ⟨y, L2, rfl, r2, eg2, hz2⟩ := hq
  obtain ⟨rfl, rfl⟩ := Prod.mk.inj hz2
  refine J_eq eg2 ?_
  show J X 1152 [(0, .ref b), (1, .ref (xad X (0, 0, 0))), (2, .ref (xad X (4, 0, 0))), (3, iv i)] [iv y, iv y] (gs L1 4 0 L2)
  refine jr_icmp_eq (pc := 1152) (tgt := 1492) F r1 r1 dL_law_1152 (by decide) (fun _ => ?_) (fun q => absurd rfl q)
  exact hN _ _ hR'
set_option maxHeartbeats 4000000 in
set_option maxRecDepth 100000 in
theorem law_case34 {X : Cx} (F : FX X code RL 4 ret SL 9) {b L : Nat} {xs : Nat → Int32} (hL : L ≤ 2147483648) (hX : LX X b L xs) {i : Int} (C : GG) (M : LT) (hR : Rel C M) (e1 : w32 (i + 1) = i + 1) (e2 : w32 (i + 2) = i + 2) (e3 : w32 (i + 3) = i + 3) (g1 : gd (i + 1) (L : Int)) (g2 : gd (i + 2) (L : Int)) (g3 : gd (i + 3) (L : Int)) (hN : ∀ (C : GG) (M : LT), Rel C M → J X 1492 [(0, .ref b), (1, .ref (xad X (0, 0, 0))), (2, .ref (xad X (4, 0, 0))), (3, iv i)] [] (gs C 4 0 M)) : J X 1157 [(0, .ref b), (1, .ref (xad X (0, 0, 0))), (2, .ref (xad X (4, 0, 0))), (3, iv i)] [] (gs C 4 0 M) := by
  obtain ⟨r, C', M', o1, o2, hR'⟩ := op_noon C M hR (sc xs (i + 1)) (rg_i32 _)
  refine jr_aload_n (pc := 1157) F 1 dL_law_1157 rfl rfl ?_
  refine jr_aload_n (pc := 1158) F 0 dL_law_1158 rfl rfl ?_
  refine jr_iload_n (pc := 1159) F 3 dL_law_1159 rfl rfl ?_
  refine jr_iconst (pc := 1160) F dL_law_1160 ?_
  refine jr_iadd (pc := 1161) F dL_law_1161 ?_
  rw [e1]
  refine jr_sld (pc := 1162) F hX g1 hL dL_law_1162 ?_
  refine jr_callV (pc := 1163) (st := []) F [iv (sc xs (i + 1))] (snd_X4_noon (M := M) (rg_i32 _) (Q := fun z => z = (r, C')) ⟨_, o1, rfl⟩) rfl ck_L_154 rfl m0_0 rfl rfl rfl (by decide) (Nat.le_of_ble_eq_true rfl) dL_law_1163 rfl (fun v g' hq => ?_)
  obtain ⟨x, L1, rfl, r1, eg, hz⟩ := hq
  obtain ⟨rfl, rfl⟩ := Prod.mk.inj hz
  refine J_eq eg ?_
  show J X 1166 [(0, .ref b), (1, .ref (xad X (0, 0, 0))), (2, .ref (xad X (4, 0, 0))), (3, iv i)] [iv x] (gs L1 4 0 M)
  refine jr_aload_n (pc := 1166) F 2 dL_law_1166 rfl rfl ?_
  refine jr_aload_n (pc := 1167) F 0 dL_law_1167 rfl rfl ?_
  refine jr_iload_n (pc := 1168) F 3 dL_law_1168 rfl rfl ?_
  refine jr_iconst (pc := 1169) F dL_law_1169 ?_
  refine jr_iadd (pc := 1170) F dL_law_1170 ?_
  rw [e1]
  refine jr_sld (pc := 1171) F hX g1 hL dL_law_1171 ?_
  refine jr_callV (pc := 1172) (st := [iv x]) F [iv (sc xs (i + 1))] (snd_X5_noon (g0 := L1) (rg_i32 _) (Q := fun z => z = (x, M')) ⟨_, o2, rfl⟩) rfl ck_L_157 rfl m4_0 rfl rfl rfl (by decide) (Nat.le_of_ble_eq_true rfl) dL_law_1172 rfl (fun v g' hq => ?_)
  obtain ⟨y, L2, rfl, r2, eg2, hz2⟩ := hq
  obtain ⟨rfl, rfl⟩ := Prod.mk.inj hz2
  refine J_eq eg2 ?_
  show J X 1175 [(0, .ref b), (1, .ref (xad X (0, 0, 0))), (2, .ref (xad X (4, 0, 0))), (3, iv i)] [iv y, iv y] (gs L1 4 0 L2)
  refine jr_icmp_eq (pc := 1175) (tgt := 1492) F r1 r1 dL_law_1175 (by decide) (fun _ => ?_) (fun q => absurd rfl q)
  exact hN _ _ hR'
set_option maxHeartbeats 4000000 in
set_option maxRecDepth 100000 in
theorem law_case35 {X : Cx} (F : FX X code RL 4 ret SL 9) {b L : Nat} {xs : Nat → Int32} (hL : L ≤ 2147483648) (hX : LX X b L xs) {i : Int} (C : GG) (M : LT) (hR : Rel C M) (e1 : w32 (i + 1) = i + 1) (e2 : w32 (i + 2) = i + 2) (e3 : w32 (i + 3) = i + 3) (g1 : gd (i + 1) (L : Int)) (g2 : gd (i + 2) (L : Int)) (g3 : gd (i + 3) (L : Int)) (hN : ∀ (C : GG) (M : LT), Rel C M → J X 1492 [(0, .ref b), (1, .ref (xad X (0, 0, 0))), (2, .ref (xad X (4, 0, 0))), (3, iv i)] [] (gs C 4 0 M)) : J X 1180 [(0, .ref b), (1, .ref (xad X (0, 0, 0))), (2, .ref (xad X (4, 0, 0))), (3, iv i)] [] (gs C 4 0 M) := by
  obtain ⟨r, C', M', o1, o2, hR'⟩ := op_needed C M hR (sc xs (i + 1)) (sc xs (i + 2)) (rg_i32 _) (rg_i32 _)
  refine jr_aload_n (pc := 1180) F 1 dL_law_1180 rfl rfl ?_
  refine jr_aload_n (pc := 1181) F 0 dL_law_1181 rfl rfl ?_
  refine jr_iload_n (pc := 1182) F 3 dL_law_1182 rfl rfl ?_
  refine jr_iconst (pc := 1183) F dL_law_1183 ?_
  refine jr_iadd (pc := 1184) F dL_law_1184 ?_
  rw [e1]
  refine jr_sld (pc := 1185) F hX g1 hL dL_law_1185 ?_
  refine jr_aload_n (pc := 1186) F 0 dL_law_1186 rfl rfl ?_
  refine jr_iload_n (pc := 1187) F 3 dL_law_1187 rfl rfl ?_
  refine jr_iconst (pc := 1188) F dL_law_1188 ?_
  refine jr_iadd (pc := 1189) F dL_law_1189 ?_
  rw [e2]
  refine jr_sld (pc := 1190) F hX g2 hL dL_law_1190 ?_
  refine jr_callV (pc := 1191) (st := []) F [iv (sc xs (i + 1)), iv (sc xs (i + 2))] (snd_X4_needed (M := M) (rg_i32 _) (rg_i32 _) (Q := fun z => z = (r, C')) ⟨_, o1, rfl⟩) rfl ck_L_158 rfl m0_0 rfl rfl rfl (by decide) (Nat.le_of_ble_eq_true rfl) dL_law_1191 rfl (fun v g' hq => ?_)
  obtain ⟨x, L1, rfl, r1, eg, hz⟩ := hq
  obtain ⟨rfl, rfl⟩ := Prod.mk.inj hz
  refine J_eq eg ?_
  show J X 1194 [(0, .ref b), (1, .ref (xad X (0, 0, 0))), (2, .ref (xad X (4, 0, 0))), (3, iv i)] [iv x] (gs L1 4 0 M)
  refine jr_aload_n (pc := 1194) F 2 dL_law_1194 rfl rfl ?_
  refine jr_aload_n (pc := 1195) F 0 dL_law_1195 rfl rfl ?_
  refine jr_iload_n (pc := 1196) F 3 dL_law_1196 rfl rfl ?_
  refine jr_iconst (pc := 1197) F dL_law_1197 ?_
  refine jr_iadd (pc := 1198) F dL_law_1198 ?_
  rw [e1]
  refine jr_sld (pc := 1199) F hX g1 hL dL_law_1199 ?_
  refine jr_aload_n (pc := 1200) F 0 dL_law_1200 rfl rfl ?_
  refine jr_iload_n (pc := 1201) F 3 dL_law_1201 rfl rfl ?_
  refine jr_iconst (pc := 1202) F dL_law_1202 ?_
  refine jr_iadd (pc := 1203) F dL_law_1203 ?_
  rw [e2]
  refine jr_sld (pc := 1204) F hX g2 hL dL_law_1204 ?_
  refine jr_callV (pc := 1205) (st := [iv x]) F [iv (sc xs (i + 1)), iv (sc xs (i + 2))] (snd_X5_needed (g0 := L1) (rg_i32 _) (rg_i32 _) (Q := fun z => z = (x, M')) ⟨_, o2, rfl⟩) rfl ck_L_161 rfl m4_0 rfl rfl rfl (by decide) (Nat.le_of_ble_eq_true rfl) dL_law_1205 rfl (fun v g' hq => ?_)
  obtain ⟨y, L2, rfl, r2, eg2, hz2⟩ := hq
  obtain ⟨rfl, rfl⟩ := Prod.mk.inj hz2
  refine J_eq eg2 ?_
  show J X 1208 [(0, .ref b), (1, .ref (xad X (0, 0, 0))), (2, .ref (xad X (4, 0, 0))), (3, iv i)] [iv y, iv y] (gs L1 4 0 L2)
  refine jr_icmp_eq (pc := 1208) (tgt := 1492) F r1 r1 dL_law_1208 (by decide) (fun _ => ?_) (fun q => absurd rfl q)
  exact hN _ _ hR'
set_option maxHeartbeats 4000000 in
set_option maxRecDepth 100000 in
theorem law_case36 {X : Cx} (F : FX X code RL 4 ret SL 9) {b L : Nat} {xs : Nat → Int32} (hL : L ≤ 2147483648) (hX : LX X b L xs) {i : Int} (C : GG) (M : LT) (hR : Rel C M) (e1 : w32 (i + 1) = i + 1) (e2 : w32 (i + 2) = i + 2) (e3 : w32 (i + 3) = i + 3) (g1 : gd (i + 1) (L : Int)) (g2 : gd (i + 2) (L : Int)) (g3 : gd (i + 3) (L : Int)) (hN : ∀ (C : GG) (M : LT), Rel C M → J X 1492 [(0, .ref b), (1, .ref (xad X (0, 0, 0))), (2, .ref (xad X (4, 0, 0))), (3, iv i)] [] (gs C 4 0 M)) : J X 1213 [(0, .ref b), (1, .ref (xad X (0, 0, 0))), (2, .ref (xad X (4, 0, 0))), (3, iv i)] [] (gs C 4 0 M) := by
  obtain ⟨r, C', M', o1, o2, hR'⟩ := op_key C M hR  
  refine jr_aload_n (pc := 1213) F 1 dL_law_1213 rfl rfl ?_
  refine jr_callV (pc := 1214) (st := []) F [] (snd_X4_key (M := M)  (Q := fun z => z = (r, C')) ⟨_, o1, rfl⟩) rfl ck_L_162 rfl m0_0 rfl rfl rfl (by decide) (Nat.le_of_ble_eq_true rfl) dL_law_1214 rfl (fun v g' hq => ?_)
  obtain ⟨x, L1, rfl, r1, eg, hz⟩ := hq
  obtain ⟨rfl, rfl⟩ := Prod.mk.inj hz
  refine J_eq eg ?_
  show J X 1217 [(0, .ref b), (1, .ref (xad X (0, 0, 0))), (2, .ref (xad X (4, 0, 0))), (3, iv i)] [iv x] (gs L1 4 0 M)
  refine jr_aload_n (pc := 1217) F 2 dL_law_1217 rfl rfl ?_
  refine jr_callV (pc := 1218) (st := [iv x]) F [] (snd_X5_key (g0 := L1)  (Q := fun z => z = (x, M')) ⟨_, o2, rfl⟩) rfl ck_L_165 rfl m4_0 rfl rfl rfl (by decide) (Nat.le_of_ble_eq_true rfl) dL_law_1218 rfl (fun v g' hq => ?_)
  obtain ⟨y, L2, rfl, r2, eg2, hz2⟩ := hq
  obtain ⟨rfl, rfl⟩ := Prod.mk.inj hz2
  refine J_eq eg2 ?_
  show J X 1221 [(0, .ref b), (1, .ref (xad X (0, 0, 0))), (2, .ref (xad X (4, 0, 0))), (3, iv i)] [iv y, iv y] (gs L1 4 0 L2)
  refine jr_icmp_eq (pc := 1221) (tgt := 1492) F r1 r1 dL_law_1221 (by decide) (fun _ => ?_) (fun q => absurd rfl q)
  exact hN _ _ hR'
set_option maxHeartbeats 4000000 in
set_option maxRecDepth 100000 in
theorem law_case37 {X : Cx} (F : FX X code RL 4 ret SL 9) {b L : Nat} {xs : Nat → Int32} (hL : L ≤ 2147483648) (hX : LX X b L xs) {i : Int} (C : GG) (M : LT) (hR : Rel C M) (e1 : w32 (i + 1) = i + 1) (e2 : w32 (i + 2) = i + 2) (e3 : w32 (i + 3) = i + 3) (g1 : gd (i + 1) (L : Int)) (g2 : gd (i + 2) (L : Int)) (g3 : gd (i + 3) (L : Int)) (hN : ∀ (C : GG) (M : LT), Rel C M → J X 1492 [(0, .ref b), (1, .ref (xad X (0, 0, 0))), (2, .ref (xad X (4, 0, 0))), (3, iv i)] [] (gs C 4 0 M)) : J X 1226 [(0, .ref b), (1, .ref (xad X (0, 0, 0))), (2, .ref (xad X (4, 0, 0))), (3, iv i)] [] (gs C 4 0 M) := by
  obtain ⟨r, C', M', o1, o2, hR'⟩ := op_blocker C M hR  
  refine jr_aload_n (pc := 1226) F 1 dL_law_1226 rfl rfl ?_
  refine jr_callV (pc := 1227) (st := []) F [] (snd_X4_blocker (M := M)  (Q := fun z => z = (r, C')) ⟨_, o1, rfl⟩) rfl ck_L_166 rfl m0_0 rfl rfl rfl (by decide) (Nat.le_of_ble_eq_true rfl) dL_law_1227 rfl (fun v g' hq => ?_)
  obtain ⟨x, L1, rfl, r1, eg, hz⟩ := hq
  obtain ⟨rfl, rfl⟩ := Prod.mk.inj hz
  refine J_eq eg ?_
  show J X 1230 [(0, .ref b), (1, .ref (xad X (0, 0, 0))), (2, .ref (xad X (4, 0, 0))), (3, iv i)] [iv x] (gs L1 4 0 M)
  refine jr_aload_n (pc := 1230) F 2 dL_law_1230 rfl rfl ?_
  refine jr_callV (pc := 1231) (st := [iv x]) F [] (snd_X5_blocker (g0 := L1)  (Q := fun z => z = (x, M')) ⟨_, o2, rfl⟩) rfl ck_L_169 rfl m4_0 rfl rfl rfl (by decide) (Nat.le_of_ble_eq_true rfl) dL_law_1231 rfl (fun v g' hq => ?_)
  obtain ⟨y, L2, rfl, r2, eg2, hz2⟩ := hq
  obtain ⟨rfl, rfl⟩ := Prod.mk.inj hz2
  refine J_eq eg2 ?_
  show J X 1234 [(0, .ref b), (1, .ref (xad X (0, 0, 0))), (2, .ref (xad X (4, 0, 0))), (3, iv i)] [iv y, iv y] (gs L1 4 0 L2)
  refine jr_icmp_eq (pc := 1234) (tgt := 1492) F r1 r1 dL_law_1234 (by decide) (fun _ => ?_) (fun q => absurd rfl q)
  exact hN _ _ hR'
set_option maxHeartbeats 4000000 in
set_option maxRecDepth 100000 in
theorem law_case38 {X : Cx} (F : FX X code RL 4 ret SL 9) {b L : Nat} {xs : Nat → Int32} (hL : L ≤ 2147483648) (hX : LX X b L xs) {i : Int} (C : GG) (M : LT) (hR : Rel C M) (e1 : w32 (i + 1) = i + 1) (e2 : w32 (i + 2) = i + 2) (e3 : w32 (i + 3) = i + 3) (g1 : gd (i + 1) (L : Int)) (g2 : gd (i + 2) (L : Int)) (g3 : gd (i + 3) (L : Int)) (hN : ∀ (C : GG) (M : LT), Rel C M → J X 1492 [(0, .ref b), (1, .ref (xad X (0, 0, 0))), (2, .ref (xad X (4, 0, 0))), (3, iv i)] [] (gs C 4 0 M)) : J X 1239 [(0, .ref b), (1, .ref (xad X (0, 0, 0))), (2, .ref (xad X (4, 0, 0))), (3, iv i)] [] (gs C 4 0 M) := by
  obtain ⟨r, C', M', o1, o2, hR'⟩ := op_mean C M hR (sc xs (i + 1)) (sc xs (i + 2)) (rg_i32 _) (rg_i32 _)
  refine jr_aload_n (pc := 1239) F 1 dL_law_1239 rfl rfl ?_
  refine jr_aload_n (pc := 1240) F 0 dL_law_1240 rfl rfl ?_
  refine jr_iload_n (pc := 1241) F 3 dL_law_1241 rfl rfl ?_
  refine jr_iconst (pc := 1242) F dL_law_1242 ?_
  refine jr_iadd (pc := 1243) F dL_law_1243 ?_
  rw [e1]
  refine jr_sld (pc := 1244) F hX g1 hL dL_law_1244 ?_
  refine jr_aload_n (pc := 1245) F 0 dL_law_1245 rfl rfl ?_
  refine jr_iload_n (pc := 1246) F 3 dL_law_1246 rfl rfl ?_
  refine jr_iconst (pc := 1247) F dL_law_1247 ?_
  refine jr_iadd (pc := 1248) F dL_law_1248 ?_
  rw [e2]
  refine jr_sld (pc := 1249) F hX g2 hL dL_law_1249 ?_
  refine jr_callV (pc := 1250) (st := []) F [iv (sc xs (i + 1)), iv (sc xs (i + 2))] (snd_X4_mean (M := M) (rg_i32 _) (rg_i32 _) (Q := fun z => z = (r, C')) ⟨_, o1, rfl⟩) rfl ck_L_170 rfl m0_0 rfl rfl rfl (by decide) (Nat.le_of_ble_eq_true rfl) dL_law_1250 rfl (fun v g' hq => ?_)
  obtain ⟨x, L1, rfl, r1, eg, hz⟩ := hq
  obtain ⟨rfl, rfl⟩ := Prod.mk.inj hz
  refine J_eq eg ?_
  show J X 1253 [(0, .ref b), (1, .ref (xad X (0, 0, 0))), (2, .ref (xad X (4, 0, 0))), (3, iv i)] [iv x] (gs L1 4 0 M)
  refine jr_aload_n (pc := 1253) F 2 dL_law_1253 rfl rfl ?_
  refine jr_aload_n (pc := 1254) F 0 dL_law_1254 rfl rfl ?_
  refine jr_iload_n (pc := 1255) F 3 dL_law_1255 rfl rfl ?_
  refine jr_iconst (pc := 1256) F dL_law_1256 ?_
  refine jr_iadd (pc := 1257) F dL_law_1257 ?_
  rw [e1]
  refine jr_sld (pc := 1258) F hX g1 hL dL_law_1258 ?_
  refine jr_aload_n (pc := 1259) F 0 dL_law_1259 rfl rfl ?_
  refine jr_iload_n (pc := 1260) F 3 dL_law_1260 rfl rfl ?_
  refine jr_iconst (pc := 1261) F dL_law_1261 ?_
  refine jr_iadd (pc := 1262) F dL_law_1262 ?_
  rw [e2]
  refine jr_sld (pc := 1263) F hX g2 hL dL_law_1263 ?_
  refine jr_callV (pc := 1264) (st := [iv x]) F [iv (sc xs (i + 1)), iv (sc xs (i + 2))] (snd_X5_mean (g0 := L1) (rg_i32 _) (rg_i32 _) (Q := fun z => z = (x, M')) ⟨_, o2, rfl⟩) rfl ck_L_173 rfl m4_0 rfl rfl rfl (by decide) (Nat.le_of_ble_eq_true rfl) dL_law_1264 rfl (fun v g' hq => ?_)
  obtain ⟨y, L2, rfl, r2, eg2, hz2⟩ := hq
  obtain ⟨rfl, rfl⟩ := Prod.mk.inj hz2
  refine J_eq eg2 ?_
  show J X 1267 [(0, .ref b), (1, .ref (xad X (0, 0, 0))), (2, .ref (xad X (4, 0, 0))), (3, iv i)] [iv y, iv y] (gs L1 4 0 L2)
  refine jr_icmp_eq (pc := 1267) (tgt := 1492) F r1 r1 dL_law_1267 (by decide) (fun _ => ?_) (fun q => absurd rfl q)
  exact hN _ _ hR'
set_option maxHeartbeats 4000000 in
set_option maxRecDepth 100000 in
theorem law_case39 {X : Cx} (F : FX X code RL 4 ret SL 9) {b L : Nat} {xs : Nat → Int32} (hL : L ≤ 2147483648) (hX : LX X b L xs) {i : Int} (C : GG) (M : LT) (hR : Rel C M) (e1 : w32 (i + 1) = i + 1) (e2 : w32 (i + 2) = i + 2) (e3 : w32 (i + 3) = i + 3) (g1 : gd (i + 1) (L : Int)) (g2 : gd (i + 2) (L : Int)) (g3 : gd (i + 3) (L : Int)) (hN : ∀ (C : GG) (M : LT), Rel C M → J X 1492 [(0, .ref b), (1, .ref (xad X (0, 0, 0))), (2, .ref (xad X (4, 0, 0))), (3, iv i)] [] (gs C 4 0 M)) : J X 1272 [(0, .ref b), (1, .ref (xad X (0, 0, 0))), (2, .ref (xad X (4, 0, 0))), (3, iv i)] [] (gs C 4 0 M) := by
  obtain ⟨r, C', M', o1, o2, hR'⟩ := op_runs C M hR (sc xs (i + 1)) (sc xs (i + 2)) (rg_i32 _) (rg_i32 _)
  refine jr_aload_n (pc := 1272) F 1 dL_law_1272 rfl rfl ?_
  refine jr_aload_n (pc := 1273) F 0 dL_law_1273 rfl rfl ?_
  refine jr_iload_n (pc := 1274) F 3 dL_law_1274 rfl rfl ?_
  refine jr_iconst (pc := 1275) F dL_law_1275 ?_
  refine jr_iadd (pc := 1276) F dL_law_1276 ?_
  rw [e1]
  refine jr_sld (pc := 1277) F hX g1 hL dL_law_1277 ?_
  refine jr_aload_n (pc := 1278) F 0 dL_law_1278 rfl rfl ?_
  refine jr_iload_n (pc := 1279) F 3 dL_law_1279 rfl rfl ?_
  refine jr_iconst (pc := 1280) F dL_law_1280 ?_
  refine jr_iadd (pc := 1281) F dL_law_1281 ?_
  rw [e2]
  refine jr_sld (pc := 1282) F hX g2 hL dL_law_1282 ?_
  refine jr_callV (pc := 1283) (st := []) F [iv (sc xs (i + 1)), iv (sc xs (i + 2))] (snd_X4_runs (M := M) (rg_i32 _) (rg_i32 _) (Q := fun z => z = (r, C')) ⟨_, o1, rfl⟩) rfl ck_L_174 rfl m0_0 rfl rfl rfl (by decide) (Nat.le_of_ble_eq_true rfl) dL_law_1283 rfl (fun v g' hq => ?_)
  obtain ⟨x, L1, rfl, r1, eg, hz⟩ := hq
  obtain ⟨rfl, rfl⟩ := Prod.mk.inj hz
  refine J_eq eg ?_
  show J X 1286 [(0, .ref b), (1, .ref (xad X (0, 0, 0))), (2, .ref (xad X (4, 0, 0))), (3, iv i)] [iv x] (gs L1 4 0 M)
  refine jr_aload_n (pc := 1286) F 2 dL_law_1286 rfl rfl ?_
  refine jr_aload_n (pc := 1287) F 0 dL_law_1287 rfl rfl ?_
  refine jr_iload_n (pc := 1288) F 3 dL_law_1288 rfl rfl ?_
  refine jr_iconst (pc := 1289) F dL_law_1289 ?_
  refine jr_iadd (pc := 1290) F dL_law_1290 ?_
  rw [e1]
  refine jr_sld (pc := 1291) F hX g1 hL dL_law_1291 ?_
  refine jr_aload_n (pc := 1292) F 0 dL_law_1292 rfl rfl ?_
  refine jr_iload_n (pc := 1293) F 3 dL_law_1293 rfl rfl ?_
  refine jr_iconst (pc := 1294) F dL_law_1294 ?_
  refine jr_iadd (pc := 1295) F dL_law_1295 ?_
  rw [e2]
  refine jr_sld (pc := 1296) F hX g2 hL dL_law_1296 ?_
  refine jr_callV (pc := 1297) (st := [iv x]) F [iv (sc xs (i + 1)), iv (sc xs (i + 2))] (snd_X5_runs (g0 := L1) (rg_i32 _) (rg_i32 _) (Q := fun z => z = (x, M')) ⟨_, o2, rfl⟩) rfl ck_L_177 rfl m4_0 rfl rfl rfl (by decide) (Nat.le_of_ble_eq_true rfl) dL_law_1297 rfl (fun v g' hq => ?_)
  obtain ⟨y, L2, rfl, r2, eg2, hz2⟩ := hq
  obtain ⟨rfl, rfl⟩ := Prod.mk.inj hz2
  refine J_eq eg2 ?_
  show J X 1300 [(0, .ref b), (1, .ref (xad X (0, 0, 0))), (2, .ref (xad X (4, 0, 0))), (3, iv i)] [iv y, iv y] (gs L1 4 0 L2)
  refine jr_icmp_eq (pc := 1300) (tgt := 1492) F r1 r1 dL_law_1300 (by decide) (fun _ => ?_) (fun q => absurd rfl q)
  exact hN _ _ hR'
set_option maxHeartbeats 4000000 in
set_option maxRecDepth 100000 in
theorem law_case40 {X : Cx} (F : FX X code RL 4 ret SL 9) {b L : Nat} {xs : Nat → Int32} (hL : L ≤ 2147483648) (hX : LX X b L xs) {i : Int} (C : GG) (M : LT) (hR : Rel C M) (e1 : w32 (i + 1) = i + 1) (e2 : w32 (i + 2) = i + 2) (e3 : w32 (i + 3) = i + 3) (g1 : gd (i + 1) (L : Int)) (g2 : gd (i + 2) (L : Int)) (g3 : gd (i + 3) (L : Int)) (hN : ∀ (C : GG) (M : LT), Rel C M → J X 1492 [(0, .ref b), (1, .ref (xad X (0, 0, 0))), (2, .ref (xad X (4, 0, 0))), (3, iv i)] [] (gs C 4 0 M)) : J X 1305 [(0, .ref b), (1, .ref (xad X (0, 0, 0))), (2, .ref (xad X (4, 0, 0))), (3, iv i)] [] (gs C 4 0 M) := by
  obtain ⟨r, C', M', o1, o2, hR'⟩ := op_day C M hR  
  refine jr_aload_n (pc := 1305) F 1 dL_law_1305 rfl rfl ?_
  refine jr_callV (pc := 1306) (st := []) F [] (snd_X4_day (M := M)  (Q := fun z => z = (r, C')) ⟨_, o1, rfl⟩) rfl ck_L_178 rfl m0_0 rfl rfl rfl (by decide) (Nat.le_of_ble_eq_true rfl) dL_law_1306 rfl (fun v g' hq => ?_)
  obtain ⟨x, L1, rfl, r1, eg, hz⟩ := hq
  obtain ⟨rfl, rfl⟩ := Prod.mk.inj hz
  refine J_eq eg ?_
  show J X 1309 [(0, .ref b), (1, .ref (xad X (0, 0, 0))), (2, .ref (xad X (4, 0, 0))), (3, iv i)] [iv x] (gs L1 4 0 M)
  refine jr_aload_n (pc := 1309) F 2 dL_law_1309 rfl rfl ?_
  refine jr_callV (pc := 1310) (st := [iv x]) F [] (snd_X5_day (g0 := L1)  (Q := fun z => z = (x, M')) ⟨_, o2, rfl⟩) rfl ck_L_181 rfl m4_0 rfl rfl rfl (by decide) (Nat.le_of_ble_eq_true rfl) dL_law_1310 rfl (fun v g' hq => ?_)
  obtain ⟨y, L2, rfl, r2, eg2, hz2⟩ := hq
  obtain ⟨rfl, rfl⟩ := Prod.mk.inj hz2
  refine J_eq eg2 ?_
  show J X 1313 [(0, .ref b), (1, .ref (xad X (0, 0, 0))), (2, .ref (xad X (4, 0, 0))), (3, iv i)] [iv y, iv y] (gs L1 4 0 L2)
  refine jr_icmp_eq (pc := 1313) (tgt := 1492) F r1 r1 dL_law_1313 (by decide) (fun _ => ?_) (fun q => absurd rfl q)
  exact hN _ _ hR'
set_option maxHeartbeats 4000000 in
set_option maxRecDepth 100000 in
theorem law_case41 {X : Cx} (F : FX X code RL 4 ret SL 9) {b L : Nat} {xs : Nat → Int32} (hL : L ≤ 2147483648) (hX : LX X b L xs) {i : Int} (C : GG) (M : LT) (hR : Rel C M) (e1 : w32 (i + 1) = i + 1) (e2 : w32 (i + 2) = i + 2) (e3 : w32 (i + 3) = i + 3) (g1 : gd (i + 1) (L : Int)) (g2 : gd (i + 2) (L : Int)) (g3 : gd (i + 3) (L : Int)) (hN : ∀ (C : GG) (M : LT), Rel C M → J X 1492 [(0, .ref b), (1, .ref (xad X (0, 0, 0))), (2, .ref (xad X (4, 0, 0))), (3, iv i)] [] (gs C 4 0 M)) : J X 1318 [(0, .ref b), (1, .ref (xad X (0, 0, 0))), (2, .ref (xad X (4, 0, 0))), (3, iv i)] [] (gs C 4 0 M) := by
  obtain ⟨r, C', M', o1, o2, hR'⟩ := op_stands C M hR (sc xs (i + 1)) (rg_i32 _)
  refine jr_aload_n (pc := 1318) F 1 dL_law_1318 rfl rfl ?_
  refine jr_aload_n (pc := 1319) F 0 dL_law_1319 rfl rfl ?_
  refine jr_iload_n (pc := 1320) F 3 dL_law_1320 rfl rfl ?_
  refine jr_iconst (pc := 1321) F dL_law_1321 ?_
  refine jr_iadd (pc := 1322) F dL_law_1322 ?_
  rw [e1]
  refine jr_sld (pc := 1323) F hX g1 hL dL_law_1323 ?_
  refine jr_callV (pc := 1324) (st := []) F [iv (sc xs (i + 1))] (snd_X4_stands (M := M) (rg_i32 _) (Q := fun z => z = (r, C')) ⟨_, o1, rfl⟩) rfl ck_L_182 rfl m0_0 rfl rfl rfl (by decide) (Nat.le_of_ble_eq_true rfl) dL_law_1324 rfl (fun v g' hq => ?_)
  obtain ⟨x, L1, rfl, r1, eg, hz⟩ := hq
  obtain ⟨rfl, rfl⟩ := Prod.mk.inj hz
  refine J_eq eg ?_
  show J X 1327 [(0, .ref b), (1, .ref (xad X (0, 0, 0))), (2, .ref (xad X (4, 0, 0))), (3, iv i)] [iv x] (gs L1 4 0 M)
  refine jr_aload_n (pc := 1327) F 2 dL_law_1327 rfl rfl ?_
  refine jr_aload_n (pc := 1328) F 0 dL_law_1328 rfl rfl ?_
  refine jr_iload_n (pc := 1329) F 3 dL_law_1329 rfl rfl ?_
  refine jr_iconst (pc := 1330) F dL_law_1330 ?_
  refine jr_iadd (pc := 1331) F dL_law_1331 ?_
  rw [e1]
  refine jr_sld (pc := 1332) F hX g1 hL dL_law_1332 ?_
  refine jr_callV (pc := 1333) (st := [iv x]) F [iv (sc xs (i + 1))] (snd_X5_stands (g0 := L1) (rg_i32 _) (Q := fun z => z = (x, M')) ⟨_, o2, rfl⟩) rfl ck_L_185 rfl m4_0 rfl rfl rfl (by decide) (Nat.le_of_ble_eq_true rfl) dL_law_1333 rfl (fun v g' hq => ?_)
  obtain ⟨y, L2, rfl, r2, eg2, hz2⟩ := hq
  obtain ⟨rfl, rfl⟩ := Prod.mk.inj hz2
  refine J_eq eg2 ?_
  show J X 1336 [(0, .ref b), (1, .ref (xad X (0, 0, 0))), (2, .ref (xad X (4, 0, 0))), (3, iv i)] [iv y, iv y] (gs L1 4 0 L2)
  refine jr_icmp_eq (pc := 1336) (tgt := 1492) F r1 r1 dL_law_1336 (by decide) (fun _ => ?_) (fun q => absurd rfl q)
  exact hN _ _ hR'
set_option maxHeartbeats 4000000 in
set_option maxRecDepth 100000 in
theorem law_case42 {X : Cx} (F : FX X code RL 4 ret SL 9) {b L : Nat} {xs : Nat → Int32} (hL : L ≤ 2147483648) (hX : LX X b L xs) {i : Int} (C : GG) (M : LT) (hR : Rel C M) (e1 : w32 (i + 1) = i + 1) (e2 : w32 (i + 2) = i + 2) (e3 : w32 (i + 3) = i + 3) (g1 : gd (i + 1) (L : Int)) (g2 : gd (i + 2) (L : Int)) (g3 : gd (i + 3) (L : Int)) (hN : ∀ (C : GG) (M : LT), Rel C M → J X 1492 [(0, .ref b), (1, .ref (xad X (0, 0, 0))), (2, .ref (xad X (4, 0, 0))), (3, iv i)] [] (gs C 4 0 M)) : J X 1341 [(0, .ref b), (1, .ref (xad X (0, 0, 0))), (2, .ref (xad X (4, 0, 0))), (3, iv i)] [] (gs C 4 0 M) := by
  obtain ⟨r, C', M', o1, o2, hR'⟩ := op_row C M hR (sc xs (i + 1)) (rg_i32 _)
  refine jr_aload_n (pc := 1341) F 1 dL_law_1341 rfl rfl ?_
  refine jr_aload_n (pc := 1342) F 0 dL_law_1342 rfl rfl ?_
  refine jr_iload_n (pc := 1343) F 3 dL_law_1343 rfl rfl ?_
  refine jr_iconst (pc := 1344) F dL_law_1344 ?_
  refine jr_iadd (pc := 1345) F dL_law_1345 ?_
  rw [e1]
  refine jr_sld (pc := 1346) F hX g1 hL dL_law_1346 ?_
  refine jr_callV (pc := 1347) (st := []) F [iv (sc xs (i + 1))] (snd_X4_row (M := M) (rg_i32 _) (Q := fun z => z = (r, C')) ⟨_, o1, rfl⟩) rfl ck_L_186 rfl m0_0 rfl rfl rfl (by decide) (Nat.le_of_ble_eq_true rfl) dL_law_1347 rfl (fun v g' hq => ?_)
  obtain ⟨x, L1, rfl, r1, eg, hz⟩ := hq
  obtain ⟨rfl, rfl⟩ := Prod.mk.inj hz
  refine J_eq eg ?_
  show J X 1350 [(0, .ref b), (1, .ref (xad X (0, 0, 0))), (2, .ref (xad X (4, 0, 0))), (3, iv i)] [iv x] (gs L1 4 0 M)
  refine jr_aload_n (pc := 1350) F 2 dL_law_1350 rfl rfl ?_
  refine jr_aload_n (pc := 1351) F 0 dL_law_1351 rfl rfl ?_
  refine jr_iload_n (pc := 1352) F 3 dL_law_1352 rfl rfl ?_
  refine jr_iconst (pc := 1353) F dL_law_1353 ?_
  refine jr_iadd (pc := 1354) F dL_law_1354 ?_
  rw [e1]
  refine jr_sld (pc := 1355) F hX g1 hL dL_law_1355 ?_
  refine jr_callV (pc := 1356) (st := [iv x]) F [iv (sc xs (i + 1))] (snd_X5_row (g0 := L1) (rg_i32 _) (Q := fun z => z = (x, M')) ⟨_, o2, rfl⟩) rfl ck_L_189 rfl m4_0 rfl rfl rfl (by decide) (Nat.le_of_ble_eq_true rfl) dL_law_1356 rfl (fun v g' hq => ?_)
  obtain ⟨y, L2, rfl, r2, eg2, hz2⟩ := hq
  obtain ⟨rfl, rfl⟩ := Prod.mk.inj hz2
  refine J_eq eg2 ?_
  show J X 1359 [(0, .ref b), (1, .ref (xad X (0, 0, 0))), (2, .ref (xad X (4, 0, 0))), (3, iv i)] [iv y, iv y] (gs L1 4 0 L2)
  refine jr_icmp_eq (pc := 1359) (tgt := 1492) F r1 r1 dL_law_1359 (by decide) (fun _ => ?_) (fun q => absurd rfl q)
  exact hN _ _ hR'
set_option maxHeartbeats 4000000 in
set_option maxRecDepth 100000 in
theorem law_case43 {X : Cx} (F : FX X code RL 4 ret SL 9) {b L : Nat} {xs : Nat → Int32} (hL : L ≤ 2147483648) (hX : LX X b L xs) {i : Int} (C : GG) (M : LT) (hR : Rel C M) (e1 : w32 (i + 1) = i + 1) (e2 : w32 (i + 2) = i + 2) (e3 : w32 (i + 3) = i + 3) (g1 : gd (i + 1) (L : Int)) (g2 : gd (i + 2) (L : Int)) (g3 : gd (i + 3) (L : Int)) (hN : ∀ (C : GG) (M : LT), Rel C M → J X 1492 [(0, .ref b), (1, .ref (xad X (0, 0, 0))), (2, .ref (xad X (4, 0, 0))), (3, iv i)] [] (gs C 4 0 M)) : J X 1364 [(0, .ref b), (1, .ref (xad X (0, 0, 0))), (2, .ref (xad X (4, 0, 0))), (3, iv i)] [] (gs C 4 0 M) := by
  obtain ⟨r, C', M', o1, o2, hR'⟩ := op_judge C M hR (sc xs (i + 1)) (rg_i32 _)
  refine jr_aload_n (pc := 1364) F 1 dL_law_1364 rfl rfl ?_
  refine jr_aload_n (pc := 1365) F 0 dL_law_1365 rfl rfl ?_
  refine jr_iload_n (pc := 1366) F 3 dL_law_1366 rfl rfl ?_
  refine jr_iconst (pc := 1367) F dL_law_1367 ?_
  refine jr_iadd (pc := 1368) F dL_law_1368 ?_
  rw [e1]
  refine jr_sld (pc := 1369) F hX g1 hL dL_law_1369 ?_
  refine jr_callV (pc := 1370) (st := []) F [iv (sc xs (i + 1))] (snd_X4_judge (M := M) (rg_i32 _) (Q := fun z => z = (r, C')) ⟨_, o1, rfl⟩) rfl ck_L_190 rfl m0_0 rfl rfl rfl (by decide) (Nat.le_of_ble_eq_true rfl) dL_law_1370 rfl (fun v g' hq => ?_)
  obtain ⟨x, L1, rfl, r1, eg, hz⟩ := hq
  obtain ⟨rfl, rfl⟩ := Prod.mk.inj hz
  refine J_eq eg ?_
  show J X 1373 [(0, .ref b), (1, .ref (xad X (0, 0, 0))), (2, .ref (xad X (4, 0, 0))), (3, iv i)] [iv x] (gs L1 4 0 M)
  refine jr_aload_n (pc := 1373) F 2 dL_law_1373 rfl rfl ?_
  refine jr_aload_n (pc := 1374) F 0 dL_law_1374 rfl rfl ?_
  refine jr_iload_n (pc := 1375) F 3 dL_law_1375 rfl rfl ?_
  refine jr_iconst (pc := 1376) F dL_law_1376 ?_
  refine jr_iadd (pc := 1377) F dL_law_1377 ?_
  rw [e1]
  refine jr_sld (pc := 1378) F hX g1 hL dL_law_1378 ?_
  refine jr_callV (pc := 1379) (st := [iv x]) F [iv (sc xs (i + 1))] (snd_X5_judge (g0 := L1) (rg_i32 _) (Q := fun z => z = (x, M')) ⟨_, o2, rfl⟩) rfl ck_L_193 rfl m4_0 rfl rfl rfl (by decide) (Nat.le_of_ble_eq_true rfl) dL_law_1379 rfl (fun v g' hq => ?_)
  obtain ⟨y, L2, rfl, r2, eg2, hz2⟩ := hq
  obtain ⟨rfl, rfl⟩ := Prod.mk.inj hz2
  refine J_eq eg2 ?_
  show J X 1382 [(0, .ref b), (1, .ref (xad X (0, 0, 0))), (2, .ref (xad X (4, 0, 0))), (3, iv i)] [iv y, iv y] (gs L1 4 0 L2)
  refine jr_icmp_eq (pc := 1382) (tgt := 1492) F r1 r1 dL_law_1382 (by decide) (fun _ => ?_) (fun q => absurd rfl q)
  exact hN _ _ hR'
set_option maxHeartbeats 4000000 in
set_option maxRecDepth 100000 in
theorem law_case44 {X : Cx} (F : FX X code RL 4 ret SL 9) {b L : Nat} {xs : Nat → Int32} (hL : L ≤ 2147483648) (hX : LX X b L xs) {i : Int} (C : GG) (M : LT) (hR : Rel C M) (e1 : w32 (i + 1) = i + 1) (e2 : w32 (i + 2) = i + 2) (e3 : w32 (i + 3) = i + 3) (g1 : gd (i + 1) (L : Int)) (g2 : gd (i + 2) (L : Int)) (g3 : gd (i + 3) (L : Int)) (hN : ∀ (C : GG) (M : LT), Rel C M → J X 1492 [(0, .ref b), (1, .ref (xad X (0, 0, 0))), (2, .ref (xad X (4, 0, 0))), (3, iv i)] [] (gs C 4 0 M)) : J X 1387 [(0, .ref b), (1, .ref (xad X (0, 0, 0))), (2, .ref (xad X (4, 0, 0))), (3, iv i)] [] (gs C 4 0 M) := by
  obtain ⟨r, C', M', o1, o2, hR'⟩ := op_clear C M hR  
  refine jr_aload_n (pc := 1387) F 1 dL_law_1387 rfl rfl ?_
  refine jr_callV (pc := 1388) (st := []) F [] (snd_X4_clear (M := M)  (Q := fun z => z = (r, C')) ⟨_, o1, rfl⟩) rfl ck_L_194 rfl m0_0 rfl rfl rfl (by decide) (Nat.le_of_ble_eq_true rfl) dL_law_1388 rfl (fun v g' hq => ?_)
  obtain ⟨x, L1, rfl, r1, eg, hz⟩ := hq
  obtain ⟨rfl, rfl⟩ := Prod.mk.inj hz
  refine J_eq eg ?_
  show J X 1391 [(0, .ref b), (1, .ref (xad X (0, 0, 0))), (2, .ref (xad X (4, 0, 0))), (3, iv i)] [iv x] (gs L1 4 0 M)
  refine jr_aload_n (pc := 1391) F 2 dL_law_1391 rfl rfl ?_
  refine jr_callV (pc := 1392) (st := [iv x]) F [] (snd_X5_clear (g0 := L1)  (Q := fun z => z = (x, M')) ⟨_, o2, rfl⟩) rfl ck_L_197 rfl m4_0 rfl rfl rfl (by decide) (Nat.le_of_ble_eq_true rfl) dL_law_1392 rfl (fun v g' hq => ?_)
  obtain ⟨y, L2, rfl, r2, eg2, hz2⟩ := hq
  obtain ⟨rfl, rfl⟩ := Prod.mk.inj hz2
  refine J_eq eg2 ?_
  show J X 1395 [(0, .ref b), (1, .ref (xad X (0, 0, 0))), (2, .ref (xad X (4, 0, 0))), (3, iv i)] [iv y, iv y] (gs L1 4 0 L2)
  refine jr_icmp_eq (pc := 1395) (tgt := 1492) F r1 r1 dL_law_1395 (by decide) (fun _ => ?_) (fun q => absurd rfl q)
  exact hN _ _ hR'
set_option maxHeartbeats 4000000 in
set_option maxRecDepth 100000 in
theorem law_case45 {X : Cx} (F : FX X code RL 4 ret SL 9) {b L : Nat} {xs : Nat → Int32} (hL : L ≤ 2147483648) (hX : LX X b L xs) {i : Int} (C : GG) (M : LT) (hR : Rel C M) (e1 : w32 (i + 1) = i + 1) (e2 : w32 (i + 2) = i + 2) (e3 : w32 (i + 3) = i + 3) (g1 : gd (i + 1) (L : Int)) (g2 : gd (i + 2) (L : Int)) (g3 : gd (i + 3) (L : Int)) (hN : ∀ (C : GG) (M : LT), Rel C M → J X 1492 [(0, .ref b), (1, .ref (xad X (0, 0, 0))), (2, .ref (xad X (4, 0, 0))), (3, iv i)] [] (gs C 4 0 M)) : J X 1400 [(0, .ref b), (1, .ref (xad X (0, 0, 0))), (2, .ref (xad X (4, 0, 0))), (3, iv i)] [] (gs C 4 0 M) := by
  obtain ⟨r, C', M', o1, o2, hR'⟩ := op_lots C M hR (sc xs (i + 1)) (sc xs (i + 2)) (sc xs (i + 3)) (rg_i32 _) (rg_i32 _) (rg_i32 _)
  refine jr_aload_n (pc := 1400) F 1 dL_law_1400 rfl rfl ?_
  refine jr_aload_n (pc := 1401) F 0 dL_law_1401 rfl rfl ?_
  refine jr_iload_n (pc := 1402) F 3 dL_law_1402 rfl rfl ?_
  refine jr_iconst (pc := 1403) F dL_law_1403 ?_
  refine jr_iadd (pc := 1404) F dL_law_1404 ?_
  rw [e1]
  refine jr_sld (pc := 1405) F hX g1 hL dL_law_1405 ?_
  refine jr_aload_n (pc := 1406) F 0 dL_law_1406 rfl rfl ?_
  refine jr_iload_n (pc := 1407) F 3 dL_law_1407 rfl rfl ?_
  refine jr_iconst (pc := 1408) F dL_law_1408 ?_
  refine jr_iadd (pc := 1409) F dL_law_1409 ?_
  rw [e2]
  refine jr_sld (pc := 1410) F hX g2 hL dL_law_1410 ?_
  refine jr_aload_n (pc := 1411) F 0 dL_law_1411 rfl rfl ?_
  refine jr_iload_n (pc := 1412) F 3 dL_law_1412 rfl rfl ?_
  refine jr_iconst (pc := 1413) F dL_law_1413 ?_
  refine jr_iadd (pc := 1414) F dL_law_1414 ?_
  rw [e3]
  refine jr_sld (pc := 1415) F hX g3 hL dL_law_1415 ?_
  refine jr_callV (pc := 1416) (st := []) F [iv (sc xs (i + 1)), iv (sc xs (i + 2)), iv (sc xs (i + 3))] (snd_X4_lots (M := M) (rg_i32 _) (rg_i32 _) (rg_i32 _) (Q := fun z => z = (r, C')) ⟨_, o1, rfl⟩) rfl ck_L_198 rfl m0_0 rfl rfl rfl (by decide) (Nat.le_of_ble_eq_true rfl) dL_law_1416 rfl (fun v g' hq => ?_)
  obtain ⟨x, L1, rfl, r1, eg, hz⟩ := hq
  obtain ⟨rfl, rfl⟩ := Prod.mk.inj hz
  refine J_eq eg ?_
  show J X 1419 [(0, .ref b), (1, .ref (xad X (0, 0, 0))), (2, .ref (xad X (4, 0, 0))), (3, iv i)] [iv x] (gs L1 4 0 M)
  refine jr_aload_n (pc := 1419) F 2 dL_law_1419 rfl rfl ?_
  refine jr_aload_n (pc := 1420) F 0 dL_law_1420 rfl rfl ?_
  refine jr_iload_n (pc := 1421) F 3 dL_law_1421 rfl rfl ?_
  refine jr_iconst (pc := 1422) F dL_law_1422 ?_
  refine jr_iadd (pc := 1423) F dL_law_1423 ?_
  rw [e1]
  refine jr_sld (pc := 1424) F hX g1 hL dL_law_1424 ?_
  refine jr_aload_n (pc := 1425) F 0 dL_law_1425 rfl rfl ?_
  refine jr_iload_n (pc := 1426) F 3 dL_law_1426 rfl rfl ?_
  refine jr_iconst (pc := 1427) F dL_law_1427 ?_
  refine jr_iadd (pc := 1428) F dL_law_1428 ?_
  rw [e2]
  refine jr_sld (pc := 1429) F hX g2 hL dL_law_1429 ?_
  refine jr_aload_n (pc := 1430) F 0 dL_law_1430 rfl rfl ?_
  refine jr_iload_n (pc := 1431) F 3 dL_law_1431 rfl rfl ?_
  refine jr_iconst (pc := 1432) F dL_law_1432 ?_
  refine jr_iadd (pc := 1433) F dL_law_1433 ?_
  rw [e3]
  refine jr_sld (pc := 1434) F hX g3 hL dL_law_1434 ?_
  refine jr_callV (pc := 1435) (st := [iv x]) F [iv (sc xs (i + 1)), iv (sc xs (i + 2)), iv (sc xs (i + 3))] (snd_X5_lots (g0 := L1) (rg_i32 _) (rg_i32 _) (rg_i32 _) (Q := fun z => z = (x, M')) ⟨_, o2, rfl⟩) rfl ck_L_201 rfl m4_0 rfl rfl rfl (by decide) (Nat.le_of_ble_eq_true rfl) dL_law_1435 rfl (fun v g' hq => ?_)
  obtain ⟨y, L2, rfl, r2, eg2, hz2⟩ := hq
  obtain ⟨rfl, rfl⟩ := Prod.mk.inj hz2
  refine J_eq eg2 ?_
  show J X 1438 [(0, .ref b), (1, .ref (xad X (0, 0, 0))), (2, .ref (xad X (4, 0, 0))), (3, iv i)] [iv y, iv y] (gs L1 4 0 L2)
  refine jr_icmp_eq (pc := 1438) (tgt := 1492) F r1 r1 dL_law_1438 (by decide) (fun _ => ?_) (fun q => absurd rfl q)
  exact hN _ _ hR'
set_option maxHeartbeats 4000000 in
set_option maxRecDepth 100000 in
theorem law_case46 {X : Cx} (F : FX X code RL 4 ret SL 9) {b L : Nat} {xs : Nat → Int32} (hL : L ≤ 2147483648) (hX : LX X b L xs) {i : Int} (C : GG) (M : LT) (hR : Rel C M) (e1 : w32 (i + 1) = i + 1) (e2 : w32 (i + 2) = i + 2) (e3 : w32 (i + 3) = i + 3) (g1 : gd (i + 1) (L : Int)) (g2 : gd (i + 2) (L : Int)) (g3 : gd (i + 3) (L : Int)) (hN : ∀ (C : GG) (M : LT), Rel C M → J X 1492 [(0, .ref b), (1, .ref (xad X (0, 0, 0))), (2, .ref (xad X (4, 0, 0))), (3, iv i)] [] (gs C 4 0 M)) : J X 1443 [(0, .ref b), (1, .ref (xad X (0, 0, 0))), (2, .ref (xad X (4, 0, 0))), (3, iv i)] [] (gs C 4 0 M) := by
  obtain ⟨r, C', M', o1, o2, hR'⟩ := op_image C M hR  
  refine jr_aload_n (pc := 1443) F 1 dL_law_1443 rfl rfl ?_
  refine jr_callV (pc := 1444) (st := []) F [] (snd_X4_image (M := M)  (Q := fun z => z = (r, C')) ⟨_, o1, rfl⟩) rfl ck_L_202 rfl m0_0 rfl rfl rfl (by decide) (Nat.le_of_ble_eq_true rfl) dL_law_1444 rfl (fun v g' hq => ?_)
  obtain ⟨x, L1, rfl, r1, eg, hz⟩ := hq
  obtain ⟨rfl, rfl⟩ := Prod.mk.inj hz
  refine J_eq eg ?_
  show J X 1447 [(0, .ref b), (1, .ref (xad X (0, 0, 0))), (2, .ref (xad X (4, 0, 0))), (3, iv i)] [iv x] (gs L1 4 0 M)
  refine jr_aload_n (pc := 1447) F 2 dL_law_1447 rfl rfl ?_
  refine jr_callV (pc := 1448) (st := [iv x]) F [] (snd_X5_image (g0 := L1)  (Q := fun z => z = (x, M')) ⟨_, o2, rfl⟩) rfl ck_L_205 rfl m4_0 rfl rfl rfl (by decide) (Nat.le_of_ble_eq_true rfl) dL_law_1448 rfl (fun v g' hq => ?_)
  obtain ⟨y, L2, rfl, r2, eg2, hz2⟩ := hq
  obtain ⟨rfl, rfl⟩ := Prod.mk.inj hz2
  refine J_eq eg2 ?_
  show J X 1451 [(0, .ref b), (1, .ref (xad X (0, 0, 0))), (2, .ref (xad X (4, 0, 0))), (3, iv i)] [iv y, iv y] (gs L1 4 0 L2)
  refine jr_icmp_eq (pc := 1451) (tgt := 1492) F r1 r1 dL_law_1451 (by decide) (fun _ => ?_) (fun q => absurd rfl q)
  exact hN _ _ hR'
set_option maxHeartbeats 4000000 in
set_option maxRecDepth 100000 in
theorem law_case47 {X : Cx} (F : FX X code RL 4 ret SL 9) {b L : Nat} {xs : Nat → Int32} (hL : L ≤ 2147483648) (hX : LX X b L xs) {i : Int} (C : GG) (M : LT) (hR : Rel C M) (e1 : w32 (i + 1) = i + 1) (e2 : w32 (i + 2) = i + 2) (e3 : w32 (i + 3) = i + 3) (g1 : gd (i + 1) (L : Int)) (g2 : gd (i + 2) (L : Int)) (g3 : gd (i + 3) (L : Int)) (hN : ∀ (C : GG) (M : LT), Rel C M → J X 1492 [(0, .ref b), (1, .ref (xad X (0, 0, 0))), (2, .ref (xad X (4, 0, 0))), (3, iv i)] [] (gs C 4 0 M)) : J X 1456 [(0, .ref b), (1, .ref (xad X (0, 0, 0))), (2, .ref (xad X (4, 0, 0))), (3, iv i)] [] (gs C 4 0 M) := by
  obtain ⟨r, C', M', o1, o2, hR'⟩ := op_restore C M hR  
  refine jr_aload_n (pc := 1456) F 1 dL_law_1456 rfl rfl ?_
  refine jr_callV (pc := 1457) (st := []) F [] (snd_X4_restore (M := M)  (Q := fun z => z = (r, C')) ⟨_, o1, rfl⟩) rfl ck_L_206 rfl m0_0 rfl rfl rfl (by decide) (Nat.le_of_ble_eq_true rfl) dL_law_1457 rfl (fun v g' hq => ?_)
  obtain ⟨x, L1, rfl, r1, eg, hz⟩ := hq
  obtain ⟨rfl, rfl⟩ := Prod.mk.inj hz
  refine J_eq eg ?_
  show J X 1460 [(0, .ref b), (1, .ref (xad X (0, 0, 0))), (2, .ref (xad X (4, 0, 0))), (3, iv i)] [iv x] (gs L1 4 0 M)
  refine jr_aload_n (pc := 1460) F 2 dL_law_1460 rfl rfl ?_
  refine jr_callV (pc := 1461) (st := [iv x]) F [] (snd_X5_restore (g0 := L1)  (Q := fun z => z = (x, M')) ⟨_, o2, rfl⟩) rfl ck_L_209 rfl m4_0 rfl rfl rfl (by decide) (Nat.le_of_ble_eq_true rfl) dL_law_1461 rfl (fun v g' hq => ?_)
  obtain ⟨y, L2, rfl, r2, eg2, hz2⟩ := hq
  obtain ⟨rfl, rfl⟩ := Prod.mk.inj hz2
  refine J_eq eg2 ?_
  show J X 1464 [(0, .ref b), (1, .ref (xad X (0, 0, 0))), (2, .ref (xad X (4, 0, 0))), (3, iv i)] [iv y, iv y] (gs L1 4 0 L2)
  refine jr_icmp_eq (pc := 1464) (tgt := 1492) F r1 r1 dL_law_1464 (by decide) (fun _ => ?_) (fun q => absurd rfl q)
  exact hN _ _ hR'
set_option maxHeartbeats 4000000 in
set_option maxRecDepth 100000 in
theorem law_case48 {X : Cx} (F : FX X code RL 4 ret SL 9) {b L : Nat} {xs : Nat → Int32} (hL : L ≤ 2147483648) (hX : LX X b L xs) {i : Int} (C : GG) (M : LT) (hR : Rel C M) (e1 : w32 (i + 1) = i + 1) (e2 : w32 (i + 2) = i + 2) (e3 : w32 (i + 3) = i + 3) (g1 : gd (i + 1) (L : Int)) (g2 : gd (i + 2) (L : Int)) (g3 : gd (i + 3) (L : Int)) (hN : ∀ (C : GG) (M : LT), Rel C M → J X 1492 [(0, .ref b), (1, .ref (xad X (0, 0, 0))), (2, .ref (xad X (4, 0, 0))), (3, iv i)] [] (gs C 4 0 M)) : J X 1469 [(0, .ref b), (1, .ref (xad X (0, 0, 0))), (2, .ref (xad X (4, 0, 0))), (3, iv i)] [] (gs C 4 0 M) := by
  obtain ⟨r, M', o1, o2, hR'⟩ := op_count C M hR (sc xs (i + 1)) (rg_i32 _)
  refine jr_aload_n (pc := 1469) F 1 dL_law_1469 rfl rfl ?_
  refine jr_aload_n (pc := 1470) F 0 dL_law_1470 rfl rfl ?_
  refine jr_iload_n (pc := 1471) F 3 dL_law_1471 rfl rfl ?_
  refine jr_iconst (pc := 1472) F dL_law_1472 ?_
  refine jr_iadd (pc := 1473) F dL_law_1473 ?_
  rw [e1]
  refine jr_sld (pc := 1474) F hX g1 hL dL_law_1474 ?_
  refine jr_callV (pc := 1475) (st := []) F [iv (sc xs (i + 1))] (snd_X4_count (M := M) (rg_i32 _) (Q := fun z => z = r) ⟨_, o1, rfl⟩) rfl ck_L_210 rfl m0_0 rfl rfl rfl (by decide) (Nat.le_of_ble_eq_true rfl) dL_law_1475 rfl (fun v g' hq => ?_)
  obtain ⟨x, rfl, r1, eg, hz⟩ := hq
  subst hz
  refine J_eq eg ?_
  show J X 1478 [(0, .ref b), (1, .ref (xad X (0, 0, 0))), (2, .ref (xad X (4, 0, 0))), (3, iv i)] [iv x] (gs C 4 0 M)
  refine jr_aload_n (pc := 1478) F 2 dL_law_1478 rfl rfl ?_
  refine jr_aload_n (pc := 1479) F 0 dL_law_1479 rfl rfl ?_
  refine jr_iload_n (pc := 1480) F 3 dL_law_1480 rfl rfl ?_
  refine jr_iconst (pc := 1481) F dL_law_1481 ?_
  refine jr_iadd (pc := 1482) F dL_law_1482 ?_
  rw [e1]
  refine jr_sld (pc := 1483) F hX g1 hL dL_law_1483 ?_
  refine jr_callV (pc := 1484) (st := [iv x]) F [iv (sc xs (i + 1))] (snd_X5_count (g0 := C) (rg_i32 _) (Q := fun z => z = (x, M')) ⟨_, o2, rfl⟩) rfl ck_L_213 rfl m4_0 rfl rfl rfl (by decide) (Nat.le_of_ble_eq_true rfl) dL_law_1484 rfl (fun v g' hq => ?_)
  obtain ⟨y, L2, rfl, r2, eg2, hz2⟩ := hq
  obtain ⟨rfl, rfl⟩ := Prod.mk.inj hz2
  refine J_eq eg2 ?_
  show J X 1487 [(0, .ref b), (1, .ref (xad X (0, 0, 0))), (2, .ref (xad X (4, 0, 0))), (3, iv i)] [iv y, iv y] (gs C 4 0 L2)
  refine jr_icmp_eq (pc := 1487) (tgt := 1492) F r1 r1 dL_law_1487 (by decide) (fun _ => ?_) (fun q => absurd rfl q)
  exact hN _ _ hR'
set_option maxHeartbeats 8000000 in
set_option maxRecDepth 100000 in
/-- the law's loop, with n turns left at most -/
theorem law_loop {X : Cx} (F : FX X code RL 4 ret SL 9) {b L : Nat} {xs : Nat → Int32} (hL : L ≤ 2048) (hX : LX X b L xs) (hq : LQ X b) : ∀ (n : Nat) (i : Int), 0 ≤ i → i ≤ 4096 → (L : Int) < i + 4 * n → ∀ (C : GG) (M : LT), Rel C M → J X 18 [(0, .ref b), (1, .ref (xad X (0, 0, 0))), (2, .ref (xad X (4, 0, 0))), (3, iv i)] [] (gs C 4 0 M) := by
  intro n
  induction n with
  | zero =>
    intro i h0 h1 h2 C M hR
    have hgt : w32 ((L : Int) - 4) < i := by rw [w32_eq (by omega) (by omega)]; omega
    have ri : Rg i := ⟨by omega, by omega⟩
    refine jr_iload_n (pc := 18) F 3 dL_law_18 rfl rfl ?_
    refine jr_aload_n (pc := 19) F 0 dL_law_19 rfl rfl ?_
    refine jr_slen (pc := 20) F hX dL_law_20 ?_
    refine jr_iconst (pc := 21) F dL_law_21 ?_
    refine jr_isub (pc := 22) F dL_law_22 ?_
    refine jr_icmp_gt (pc := 23) (tgt := 1498) F ri (rg_w _) dL_law_23 (by decide) (fun _ => ?_) (fun q => absurd hgt (by omega))
    refine jr_iconst (pc := 1498) F dL_law_1498 ?_
    exact jr_lawret (pc := 1499) F hq dL_law_1499
  | succ n ih =>
    intro i h0 h1 h2 C M hR
    have ri : Rg i := ⟨by omega, by omega⟩
    refine jr_iload_n (pc := 18) F 3 dL_law_18 rfl rfl ?_
    refine jr_aload_n (pc := 19) F 0 dL_law_19 rfl rfl ?_
    refine jr_slen (pc := 20) F hX dL_law_20 ?_
    refine jr_iconst (pc := 21) F dL_law_21 ?_
    refine jr_isub (pc := 22) F dL_law_22 ?_
    refine jr_icmp_gt (pc := 23) (tgt := 1498) F ri (rg_w _) dL_law_23 (by decide) (fun _ => ?_) (fun hle => ?_)
    · refine jr_iconst (pc := 1498) F dL_law_1498 ?_
      exact jr_lawret (pc := 1499) F hq dL_law_1499
    rw [w32_eq (by omega) (by omega)] at hle
    have e1 : w32 (i + 1) = i + 1 := w32_eq (by omega) (by omega)
    have e2 : w32 (i + 2) = i + 2 := w32_eq (by omega) (by omega)
    have e3 : w32 (i + 3) = i + 3 := w32_eq (by omega) (by omega)
    have e4 : w32 (i + 4) = i + 4 := w32_eq (by omega) (by omega)
    have g0 : gd i (L : Int) := ⟨by omega, by omega⟩
    have g1 : gd (i + 1) (L : Int) := ⟨by omega, by omega⟩
    have g2 : gd (i + 2) (L : Int) := ⟨by omega, by omega⟩
    have g3 : gd (i + 3) (L : Int) := ⟨by omega, by omega⟩
    have hL2 : L ≤ 2147483648 := by omega
    have hN : ∀ (C : GG) (M : LT), Rel C M → J X 1492 [(0, .ref b), (1, .ref (xad X (0, 0, 0))), (2, .ref (xad X (4, 0, 0))), (3, iv i)] [] (gs C 4 0 M) := by
      intro C M hR
      refine jr_iinc (pc := 1492) F [(3, iv (i + 4)), (0, .ref b), (1, .ref (xad X (0, 0, 0))), (2, .ref (xad X (4, 0, 0)))] 3 dL_law_1492 rfl (by decide) (by rw [e4]; rfl) ?_
      refine jr_goto (pc := 1495) (tgt := 18) F dL_law_1495 (by decide) ?_
      refine jr_sub F [1, 2, 3, 0] [(0, .ref b), (1, .ref (xad X (0, 0, 0))), (2, .ref (xad X (4, 0, 0))), (3, iv (i + 4))] rfl ?_
      exact ih (i + 4) (by omega) (by omega) (by omega) C M hR
    refine jr_aload_n (pc := 26) F 0 dL_law_26 rfl rfl ?_
    refine jr_iload_n (pc := 27) F 3 dL_law_27 rfl rfl ?_
    refine jr_sld (pc := 28) F hX g0 hL2 dL_law_28 ?_
    refine jr_bipush (pc := 29) F dL_law_29 (by decide) ?_
    refine jr_iand (pc := 31) F dL_law_31 ?_
    generalize hx : b_and (xs i.toNat).toInt 63 = x
    have rx : Rg x := by rw [← hx]; exact rg_and _ _
    by_cases h0 : x = 0
    · exact jr_tsin (pc := 32) (tgt := 244) (off := 212) F h0 ⟨by decide, by decide⟩ ⟨by decide, by decide⟩ rfl (by decide) dL_law_32 (law_case0 F hL2 hX C M hR e1 e2 e3 g1 g2 g3 hN)
    by_cases h1 : x = 1
    · exact jr_tsin (pc := 32) (tgt := 267) (off := 235) F h1 ⟨by decide, by decide⟩ ⟨by decide, by decide⟩ rfl (by decide) dL_law_32 (law_case1 F hL2 hX C M hR e1 e2 e3 g1 g2 g3 hN)
    by_cases h2 : x = 2
    · exact jr_tsin (pc := 32) (tgt := 280) (off := 248) F h2 ⟨by decide, by decide⟩ ⟨by decide, by decide⟩ rfl (by decide) dL_law_32 (law_case2 F hL2 hX C M hR e1 e2 e3 g1 g2 g3 hN)
    by_cases h3 : x = 3
    · exact jr_tsin (pc := 32) (tgt := 313) (off := 281) F h3 ⟨by decide, by decide⟩ ⟨by decide, by decide⟩ rfl (by decide) dL_law_32 (law_case3 F hL2 hX C M hR e1 e2 e3 g1 g2 g3 hN)
    by_cases h4 : x = 4
    · exact jr_tsin (pc := 32) (tgt := 356) (off := 324) F h4 ⟨by decide, by decide⟩ ⟨by decide, by decide⟩ rfl (by decide) dL_law_32 (law_case4 F hL2 hX C M hR e1 e2 e3 g1 g2 g3 hN)
    by_cases h5 : x = 5
    · exact jr_tsin (pc := 32) (tgt := 389) (off := 357) F h5 ⟨by decide, by decide⟩ ⟨by decide, by decide⟩ rfl (by decide) dL_law_32 (law_case5 F hL2 hX C M hR e1 e2 e3 g1 g2 g3 hN)
    by_cases h6 : x = 6
    · exact jr_tsin (pc := 32) (tgt := 422) (off := 390) F h6 ⟨by decide, by decide⟩ ⟨by decide, by decide⟩ rfl (by decide) dL_law_32 (law_case6 F hL2 hX C M hR e1 e2 e3 g1 g2 g3 hN)
    by_cases h7 : x = 7
    · exact jr_tsin (pc := 32) (tgt := 445) (off := 413) F h7 ⟨by decide, by decide⟩ ⟨by decide, by decide⟩ rfl (by decide) dL_law_32 (law_case7 F hL2 hX C M hR e1 e2 e3 g1 g2 g3 hN)
    by_cases h8 : x = 8
    · exact jr_tsin (pc := 32) (tgt := 488) (off := 456) F h8 ⟨by decide, by decide⟩ ⟨by decide, by decide⟩ rfl (by decide) dL_law_32 (law_case8 F hL2 hX C M hR e1 e2 e3 g1 g2 g3 hN)
    by_cases h9 : x = 9
    · exact jr_tsin (pc := 32) (tgt := 521) (off := 489) F h9 ⟨by decide, by decide⟩ ⟨by decide, by decide⟩ rfl (by decide) dL_law_32 (law_case9 F hL2 hX C M hR e1 e2 e3 g1 g2 g3 hN)
    by_cases h10 : x = 10
    · exact jr_tsin (pc := 32) (tgt := 554) (off := 522) F h10 ⟨by decide, by decide⟩ ⟨by decide, by decide⟩ rfl (by decide) dL_law_32 (law_case10 F hL2 hX C M hR e1 e2 e3 g1 g2 g3 hN)
    by_cases h11 : x = 11
    · exact jr_tsin (pc := 32) (tgt := 577) (off := 545) F h11 ⟨by decide, by decide⟩ ⟨by decide, by decide⟩ rfl (by decide) dL_law_32 (law_case11 F hL2 hX C M hR e1 e2 e3 g1 g2 g3 hN)
    by_cases h12 : x = 12
    · exact jr_tsin (pc := 32) (tgt := 590) (off := 558) F h12 ⟨by decide, by decide⟩ ⟨by decide, by decide⟩ rfl (by decide) dL_law_32 (law_case12 F hL2 hX C M hR e1 e2 e3 g1 g2 g3 hN)
    by_cases h13 : x = 13
    · exact jr_tsin (pc := 32) (tgt := 623) (off := 591) F h13 ⟨by decide, by decide⟩ ⟨by decide, by decide⟩ rfl (by decide) dL_law_32 (law_case13 F hL2 hX C M hR e1 e2 e3 g1 g2 g3 hN)
    by_cases h14 : x = 14
    · exact jr_tsin (pc := 32) (tgt := 666) (off := 634) F h14 ⟨by decide, by decide⟩ ⟨by decide, by decide⟩ rfl (by decide) dL_law_32 (law_case14 F hL2 hX C M hR e1 e2 e3 g1 g2 g3 hN)
    by_cases h15 : x = 15
    · exact jr_tsin (pc := 32) (tgt := 699) (off := 667) F h15 ⟨by decide, by decide⟩ ⟨by decide, by decide⟩ rfl (by decide) dL_law_32 (law_case15 F hL2 hX C M hR e1 e2 e3 g1 g2 g3 hN)
    by_cases h16 : x = 16
    · exact jr_tsin (pc := 32) (tgt := 732) (off := 700) F h16 ⟨by decide, by decide⟩ ⟨by decide, by decide⟩ rfl (by decide) dL_law_32 (law_case16 F hL2 hX C M hR e1 e2 e3 g1 g2 g3 hN)
    by_cases h17 : x = 17
    · exact jr_tsin (pc := 32) (tgt := 765) (off := 733) F h17 ⟨by decide, by decide⟩ ⟨by decide, by decide⟩ rfl (by decide) dL_law_32 (law_case17 F hL2 hX C M hR e1 e2 e3 g1 g2 g3 hN)
    by_cases h18 : x = 18
    · exact jr_tsin (pc := 32) (tgt := 798) (off := 766) F h18 ⟨by decide, by decide⟩ ⟨by decide, by decide⟩ rfl (by decide) dL_law_32 (law_case18 F hL2 hX C M hR e1 e2 e3 g1 g2 g3 hN)
    by_cases h19 : x = 19
    · exact jr_tsin (pc := 32) (tgt := 821) (off := 789) F h19 ⟨by decide, by decide⟩ ⟨by decide, by decide⟩ rfl (by decide) dL_law_32 (law_case19 F hL2 hX C M hR e1 e2 e3 g1 g2 g3 hN)
    by_cases h20 : x = 20
    · exact jr_tsin (pc := 32) (tgt := 854) (off := 822) F h20 ⟨by decide, by decide⟩ ⟨by decide, by decide⟩ rfl (by decide) dL_law_32 (law_case20 F hL2 hX C M hR e1 e2 e3 g1 g2 g3 hN)
    by_cases h21 : x = 21
    · exact jr_tsin (pc := 32) (tgt := 887) (off := 855) F h21 ⟨by decide, by decide⟩ ⟨by decide, by decide⟩ rfl (by decide) dL_law_32 (law_case21 F hL2 hX C M hR e1 e2 e3 g1 g2 g3 hN)
    by_cases h22 : x = 22
    · exact jr_tsin (pc := 32) (tgt := 900) (off := 868) F h22 ⟨by decide, by decide⟩ ⟨by decide, by decide⟩ rfl (by decide) dL_law_32 (law_case22 F hL2 hX C M hR e1 e2 e3 g1 g2 g3 hN)
    by_cases h23 : x = 23
    · exact jr_tsin (pc := 32) (tgt := 923) (off := 891) F h23 ⟨by decide, by decide⟩ ⟨by decide, by decide⟩ rfl (by decide) dL_law_32 (law_case23 F hL2 hX C M hR e1 e2 e3 g1 g2 g3 hN)
    by_cases h24 : x = 24
    · exact jr_tsin (pc := 32) (tgt := 946) (off := 914) F h24 ⟨by decide, by decide⟩ ⟨by decide, by decide⟩ rfl (by decide) dL_law_32 (law_case24 F hL2 hX C M hR e1 e2 e3 g1 g2 g3 hN)
    by_cases h25 : x = 25
    · exact jr_tsin (pc := 32) (tgt := 969) (off := 937) F h25 ⟨by decide, by decide⟩ ⟨by decide, by decide⟩ rfl (by decide) dL_law_32 (law_case25 F hL2 hX C M hR e1 e2 e3 g1 g2 g3 hN)
    by_cases h26 : x = 26
    · exact jr_tsin (pc := 32) (tgt := 1002) (off := 970) F h26 ⟨by decide, by decide⟩ ⟨by decide, by decide⟩ rfl (by decide) dL_law_32 (law_case26 F hL2 hX C M hR e1 e2 e3 g1 g2 g3 hN)
    by_cases h27 : x = 27
    · exact jr_tsin (pc := 32) (tgt := 1015) (off := 983) F h27 ⟨by decide, by decide⟩ ⟨by decide, by decide⟩ rfl (by decide) dL_law_32 (law_case27 F hL2 hX C M hR e1 e2 e3 g1 g2 g3 hN)
    by_cases h28 : x = 28
    · exact jr_tsin (pc := 32) (tgt := 1028) (off := 996) F h28 ⟨by decide, by decide⟩ ⟨by decide, by decide⟩ rfl (by decide) dL_law_32 (law_case28 F hL2 hX C M hR e1 e2 e3 g1 g2 g3 hN)
    by_cases h29 : x = 29
    · exact jr_tsin (pc := 32) (tgt := 1041) (off := 1009) F h29 ⟨by decide, by decide⟩ ⟨by decide, by decide⟩ rfl (by decide) dL_law_32 (law_case29 F hL2 hX C M hR e1 e2 e3 g1 g2 g3 hN)
    by_cases h30 : x = 30
    · exact jr_tsin (pc := 32) (tgt := 1064) (off := 1032) F h30 ⟨by decide, by decide⟩ ⟨by decide, by decide⟩ rfl (by decide) dL_law_32 (law_case30 F hL2 hX C M hR e1 e2 e3 g1 g2 g3 hN)
    by_cases h31 : x = 31
    · exact jr_tsin (pc := 32) (tgt := 1087) (off := 1055) F h31 ⟨by decide, by decide⟩ ⟨by decide, by decide⟩ rfl (by decide) dL_law_32 (law_case31 F hL2 hX C M hR e1 e2 e3 g1 g2 g3 hN)
    by_cases h32 : x = 32
    · exact jr_tsin (pc := 32) (tgt := 1110) (off := 1078) F h32 ⟨by decide, by decide⟩ ⟨by decide, by decide⟩ rfl (by decide) dL_law_32 (law_case32 F hL2 hX C M hR e1 e2 e3 g1 g2 g3 hN)
    by_cases h33 : x = 33
    · exact jr_tsin (pc := 32) (tgt := 1144) (off := 1112) F h33 ⟨by decide, by decide⟩ ⟨by decide, by decide⟩ rfl (by decide) dL_law_32 (law_case33 F hL2 hX C M hR e1 e2 e3 g1 g2 g3 hN)
    by_cases h34 : x = 34
    · exact jr_tsin (pc := 32) (tgt := 1157) (off := 1125) F h34 ⟨by decide, by decide⟩ ⟨by decide, by decide⟩ rfl (by decide) dL_law_32 (law_case34 F hL2 hX C M hR e1 e2 e3 g1 g2 g3 hN)
    by_cases h35 : x = 35
    · exact jr_tsin (pc := 32) (tgt := 1180) (off := 1148) F h35 ⟨by decide, by decide⟩ ⟨by decide, by decide⟩ rfl (by decide) dL_law_32 (law_case35 F hL2 hX C M hR e1 e2 e3 g1 g2 g3 hN)
    by_cases h36 : x = 36
    · exact jr_tsin (pc := 32) (tgt := 1213) (off := 1181) F h36 ⟨by decide, by decide⟩ ⟨by decide, by decide⟩ rfl (by decide) dL_law_32 (law_case36 F hL2 hX C M hR e1 e2 e3 g1 g2 g3 hN)
    by_cases h37 : x = 37
    · exact jr_tsin (pc := 32) (tgt := 1226) (off := 1194) F h37 ⟨by decide, by decide⟩ ⟨by decide, by decide⟩ rfl (by decide) dL_law_32 (law_case37 F hL2 hX C M hR e1 e2 e3 g1 g2 g3 hN)
    by_cases h38 : x = 38
    · exact jr_tsin (pc := 32) (tgt := 1239) (off := 1207) F h38 ⟨by decide, by decide⟩ ⟨by decide, by decide⟩ rfl (by decide) dL_law_32 (law_case38 F hL2 hX C M hR e1 e2 e3 g1 g2 g3 hN)
    by_cases h39 : x = 39
    · exact jr_tsin (pc := 32) (tgt := 1272) (off := 1240) F h39 ⟨by decide, by decide⟩ ⟨by decide, by decide⟩ rfl (by decide) dL_law_32 (law_case39 F hL2 hX C M hR e1 e2 e3 g1 g2 g3 hN)
    by_cases h40 : x = 40
    · exact jr_tsin (pc := 32) (tgt := 1305) (off := 1273) F h40 ⟨by decide, by decide⟩ ⟨by decide, by decide⟩ rfl (by decide) dL_law_32 (law_case40 F hL2 hX C M hR e1 e2 e3 g1 g2 g3 hN)
    by_cases h41 : x = 41
    · exact jr_tsin (pc := 32) (tgt := 1318) (off := 1286) F h41 ⟨by decide, by decide⟩ ⟨by decide, by decide⟩ rfl (by decide) dL_law_32 (law_case41 F hL2 hX C M hR e1 e2 e3 g1 g2 g3 hN)
    by_cases h42 : x = 42
    · exact jr_tsin (pc := 32) (tgt := 1341) (off := 1309) F h42 ⟨by decide, by decide⟩ ⟨by decide, by decide⟩ rfl (by decide) dL_law_32 (law_case42 F hL2 hX C M hR e1 e2 e3 g1 g2 g3 hN)
    by_cases h43 : x = 43
    · exact jr_tsin (pc := 32) (tgt := 1364) (off := 1332) F h43 ⟨by decide, by decide⟩ ⟨by decide, by decide⟩ rfl (by decide) dL_law_32 (law_case43 F hL2 hX C M hR e1 e2 e3 g1 g2 g3 hN)
    by_cases h44 : x = 44
    · exact jr_tsin (pc := 32) (tgt := 1387) (off := 1355) F h44 ⟨by decide, by decide⟩ ⟨by decide, by decide⟩ rfl (by decide) dL_law_32 (law_case44 F hL2 hX C M hR e1 e2 e3 g1 g2 g3 hN)
    by_cases h45 : x = 45
    · exact jr_tsin (pc := 32) (tgt := 1400) (off := 1368) F h45 ⟨by decide, by decide⟩ ⟨by decide, by decide⟩ rfl (by decide) dL_law_32 (law_case45 F hL2 hX C M hR e1 e2 e3 g1 g2 g3 hN)
    by_cases h46 : x = 46
    · exact jr_tsin (pc := 32) (tgt := 1443) (off := 1411) F h46 ⟨by decide, by decide⟩ ⟨by decide, by decide⟩ rfl (by decide) dL_law_32 (law_case46 F hL2 hX C M hR e1 e2 e3 g1 g2 g3 hN)
    by_cases h47 : x = 47
    · exact jr_tsin (pc := 32) (tgt := 1456) (off := 1424) F h47 ⟨by decide, by decide⟩ ⟨by decide, by decide⟩ rfl (by decide) dL_law_32 (law_case47 F hL2 hX C M hR e1 e2 e3 g1 g2 g3 hN)
    by_cases h48 : x = 48
    · exact jr_tsin (pc := 32) (tgt := 1469) (off := 1437) F h48 ⟨by decide, by decide⟩ ⟨by decide, by decide⟩ rfl (by decide) dL_law_32 (law_case48 F hL2 hX C M hR e1 e2 e3 g1 g2 g3 hN)
    exact jr_tsout (pc := 32) (tgt := 1492) F rx (by omega) (by decide) dL_law_32 (hN C M hR)
