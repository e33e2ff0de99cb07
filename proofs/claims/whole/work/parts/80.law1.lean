section Lw
variable {G : GG} {N i n a b : Nat} {xs : Nat → Int32} {σ α : SG} {τ : TU} {θ : TH} {Q : Option Value → HH → Prop}
theorem li_in {j : Nat} (hN : N ≤ 3584) (hi : i + 7 ≤ N) (hj : j < 7) : vp_in (nI i + nI j) N := by
  rw [nI_add]
  exact vp_in_nI (by omega) (by omega)
theorem li_fault (hI : LI n σ θ α) : σ 1 9 = σ 120 9 := by rw [hI.2.1.2.2.2.2.1, hI.2.2.1.s (k := 9) (by omega)]
theorem li_trouble (hI : LI n σ θ α) : σ 1 10 = σ 120 11 := by rw [hI.2.1.2.2.2.2.2.1, hI.2.2.1.s (k := 11) (by omega)]
theorem li_where (hI : LI n σ θ α) : (if σ 1 10 = 4 then σ 2 1 else -1) = (if σ 120 11 = 4 then σ 120 10 else -1) := by
  rw [li_trouble hI]
  by_cases h : σ 120 11 = 4
  · rw [if_pos h, if_pos h, hI.2.1.2.2.2.2.2.2 (by rw [← hI.2.2.1.s (k := 11) (by omega)]; exact h), hI.2.2.1.s (k := 10) (by omega)]
  · rw [if_neg h, if_neg h]
theorem li_sizeq (hI : LI n σ θ α) {x : Int32} : (if s_in x 10 = true then α 123 x.toNatClampNeg else if x = 10 then α 125 12 else if x = 11 then σ 9 0 else if x = 12 then σ 9 1 else if x = 13 then σ 2 0 else -1) = (if s_in x 10 = true then σ 123 x.toNatClampNeg else if x = 10 then σ 125 12 else if x = 11 then σ 120 20 else if x = 12 then σ 120 21 else if x = 13 then σ 120 2 else -1) := by
  obtain ⟨nx, -, -, p0, p1, -⟩ := hI.2.1.2.2.1
  rw [p0, p1, hI.2.1.2.2.2.1.1, hI.2.2.1.f (o := 123) (by omega), hI.2.2.1.f (o := 125) (by omega), hI.2.2.1.s (k := 20) (by omega), hI.2.2.1.s (k := 21) (by omega), hI.2.2.1.s (k := 2) (by omega)]
theorem li_size (hI : LI n σ θ α) : nM (σ 123) = 0 → (∀ k, k < 10 → σ 123 k = 0) ∧ σ 125 12 = 0 ∧ σ 120 20 = 0 ∧ σ 120 21 = 0 := by
  rw [hI.2.2.1.f (o := 123) (by omega), hI.2.2.1.f (o := 125) (by omega), hI.2.2.1.s (k := 20) (by omega), hI.2.2.1.s (k := 21) (by omega)]
  exact hI.2.2.2.z
set_option maxHeartbeats 1000000 in
theorem lc_264 (hS : SCR G N xs) (hi : i + 7 ≤ N) (hI : LI n σ θ α) (kk : ∀ n' σ' τ' θ' α', n ≤ n' → LI n' σ' θ' α' → SW G 15 mL_law Q a b 1833 [some (.ref 1099), some (.ref 1), some (.ref 120), some (.ref 133), some (.int (nI i)), none, none] [] (n', σ', τ', θ')) : SW G 15 mL_law Q a b 264 [some (.ref 1099), some (.ref 1), some (.ref 120), some (.ref 133), some (.int (nI i)), none, none] [] (n, σ, τ, θ) := by
  refine SW.aload_n dL_law_264 rfl ?_
  refine SW.aload_n dL_law_265 rfl ?_
  refine SW.iload dL_law_266 rfl ?_
  refine SW.iconst (v := (1 : Int32)) dL_law_268 (by decide) ?_
  refine SW.iadd dL_law_269 ?_
  refine SW.sald hS (li_in hS.1 hi (j := 1) (by decide)) dL_law_270 ?_
  refine SW.aload_n dL_law_271 rfl ?_
  refine SW.iload dL_law_272 rfl ?_
  refine SW.iconst (v := (2 : Int32)) dL_law_274 (by decide) ?_
  refine SW.iadd dL_law_275 ?_
  refine SW.sald hS (li_in hS.1 hi (j := 2) (by decide)) dL_law_276 ?_
  refine SW.aload_n dL_law_277 rfl ?_
  refine SW.iload dL_law_278 rfl ?_
  refine SW.iconst (v := (3 : Int32)) dL_law_280 (by decide) ?_
  refine SW.iadd dL_law_281 ?_
  refine SW.sald hS (li_in hS.1 hi (j := 3) (by decide)) dL_law_282 ?_
  refine SW.aload_n dL_law_283 rfl ?_
  refine SW.iload dL_law_284 rfl ?_
  refine SW.iconst (v := (4 : Int32)) dL_law_286 (by decide) ?_
  refine SW.iadd dL_law_287 ?_
  refine SW.sald hS (li_in hS.1 hi (j := 4) (by decide)) dL_law_288 ?_
  refine SW.aload_n dL_law_289 rfl ?_
  refine SW.iload dL_law_290 rfl ?_
  refine SW.iconst (v := (5 : Int32)) dL_law_292 (by decide) ?_
  refine SW.iadd dL_law_293 ?_
  refine SW.sald hS (li_in hS.1 hi (j := 5) (by decide)) dL_law_294 ?_
  refine SW.cvi5 kV_L_19 (by decide) aw_cl9 kp_1 (by decide) (hI.1.le (by decide)) rfl (Nat.le_of_ble_eq_true rfl) dL_law_295 (p9_feed hI.1 hI.2.1 hI.2.2.2 (fun σ1 h1 c1 => ?_))
  refine SW.aload_n dL_law_298 rfl ?_
  refine SW.aload_n dL_law_299 rfl ?_
  refine SW.iload dL_law_300 rfl ?_
  refine SW.iconst (v := (1 : Int32)) dL_law_302 (by decide) ?_
  refine SW.iadd dL_law_303 ?_
  refine SW.sald hS (li_in hS.1 hi (j := 1) (by decide)) dL_law_304 ?_
  refine SW.aload_n dL_law_305 rfl ?_
  refine SW.iload dL_law_306 rfl ?_
  refine SW.iconst (v := (2 : Int32)) dL_law_308 (by decide) ?_
  refine SW.iadd dL_law_309 ?_
  refine SW.sald hS (li_in hS.1 hi (j := 2) (by decide)) dL_law_310 ?_
  refine SW.aload_n dL_law_311 rfl ?_
  refine SW.iload dL_law_312 rfl ?_
  refine SW.iconst (v := (3 : Int32)) dL_law_314 (by decide) ?_
  refine SW.iadd dL_law_315 ?_
  refine SW.sald hS (li_in hS.1 hi (j := 3) (by decide)) dL_law_316 ?_
  refine SW.aload_n dL_law_317 rfl ?_
  refine SW.iload dL_law_318 rfl ?_
  refine SW.iconst (v := (4 : Int32)) dL_law_320 (by decide) ?_
  refine SW.iadd dL_law_321 ?_
  refine SW.sald hS (li_in hS.1 hi (j := 4) (by decide)) dL_law_322 ?_
  refine SW.aload_n dL_law_323 rfl ?_
  refine SW.iload dL_law_324 rfl ?_
  refine SW.iconst (v := (5 : Int32)) dL_law_326 (by decide) ?_
  refine SW.iadd dL_law_327 ?_
  refine SW.sald hS (li_in hS.1 hi (j := 5) (by decide)) dL_law_328 ?_
  refine SW.cvi5 kV_L_23 (by decide) aw_cl10 kp_120 (by decide) (hI.1.le (by decide)) rfl (Nat.le_of_ble_eq_true rfl) dL_law_329 (p10_feed hI.1 (hI.2.2.1.cc h1) hI.2.2.2 (fun σ2 h2 r2 a2 => ?_))
  refine SW.icmp_eq 1833 dL_law_332 (by decide) (fun _ => ?_) (fun h => absurd (by first | rfl | decide) h)
  exact kk n σ2 τ θ _ (Nat.le_refl _) (hI.a hI.1 c1 h2 r2 a2)
set_option maxHeartbeats 1000000 in
theorem lc_337 (hS : SCR G N xs) (hi : i + 7 ≤ N) (hI : LI n σ θ α) (kk : ∀ n' σ' τ' θ' α', n ≤ n' → LI n' σ' θ' α' → SW G 15 mL_law Q a b 1833 [some (.ref 1099), some (.ref 1), some (.ref 120), some (.ref 133), some (.int (nI i)), none, none] [] (n', σ', τ', θ')) : SW G 15 mL_law Q a b 337 [some (.ref 1099), some (.ref 1), some (.ref 120), some (.ref 133), some (.int (nI i)), none, none] [] (n, σ, τ, θ) := by
  refine SW.aload_n dL_law_337 rfl ?_
  refine SW.aload_n dL_law_338 rfl ?_
  refine SW.iload dL_law_339 rfl ?_
  refine SW.iconst (v := (1 : Int32)) dL_law_341 (by decide) ?_
  refine SW.iadd dL_law_342 ?_
  refine SW.sald hS (li_in hS.1 hi (j := 1) (by decide)) dL_law_343 ?_
  refine SW.cvi1 kV_L_24 (by decide) aw_cl9 kp_1 (by decide) (hI.1.le (by decide)) rfl (Nat.le_of_ble_eq_true rfl) dL_law_344 (p9_duchy hI.1 hI.2.1 hI.2.2.2 (fun σ1 τ1 θ1 hW1 h1 c1 => ?_))
  refine SW.aload_n dL_law_347 rfl ?_
  refine SW.aload_n dL_law_348 rfl ?_
  refine SW.iload dL_law_349 rfl ?_
  refine SW.iconst (v := (1 : Int32)) dL_law_351 (by decide) ?_
  refine SW.iadd dL_law_352 ?_
  refine SW.sald hS (li_in hS.1 hi (j := 1) (by decide)) dL_law_353 ?_
  refine SW.cvi1 kV_L_27 (by decide) aw_cl10 kp_120 (by decide) (hW1.le (by decide)) rfl (Nat.le_of_ble_eq_true rfl) dL_law_354 (p10_duchy hW1 (hI.2.2.1.cc h1) hI.2.2.2 (BT_of hI.2.1) (fun σ2 h2 r2 a2 => ?_))
  refine SW.icmp_eq 1833 dL_law_357 (by decide) (fun _ => ?_) (fun h => absurd (by first | rfl | decide) h)
  exact kk n σ2 τ1 θ1 _ (Nat.le_refl _) (hI.a hW1 c1 h2 r2 a2)
set_option maxHeartbeats 1000000 in
theorem lc_362 (hS : SCR G N xs) (hi : i + 7 ≤ N) (hI : LI n σ θ α) (kk : ∀ n' σ' τ' θ' α', n ≤ n' → LI n' σ' θ' α' → SW G 15 mL_law Q a b 1833 [some (.ref 1099), some (.ref 1), some (.ref 120), some (.ref 133), some (.int (nI i)), none, none] [] (n', σ', τ', θ')) : SW G 15 mL_law Q a b 362 [some (.ref 1099), some (.ref 1), some (.ref 120), some (.ref 133), some (.int (nI i)), none, none] [] (n, σ, τ, θ) := by
  refine SW.aload_n dL_law_362 rfl ?_
  refine SW.cvi0 kV_L_28 (by decide) aw_cl9 kp_1 (by decide) (hI.1.le (by decide)) rfl (Nat.le_of_ble_eq_true rfl) dL_law_363 (p9_fault hI.1 ?_)
  refine SW.aload_n dL_law_366 rfl ?_
  refine SW.cvi0 kV_L_32 (by decide) aw_cl10 kp_120 (by decide) (hI.1.le (by decide)) rfl (Nat.le_of_ble_eq_true rfl) dL_law_367 (p10_fault hI.1 (fun σ2 h2 => ?_))
  refine SW.icmp_eq 1833 dL_law_370 (by decide) (fun _ => ?_) (fun h => absurd ?_ h)
  · exact kk n σ2 τ θ α (Nat.le_refl _) (hI.s h2)
  · exact li_fault hI
set_option maxHeartbeats 1000000 in
theorem lc_375 (hS : SCR G N xs) (hi : i + 7 ≤ N) (hI : LI n σ θ α) (kk : ∀ n' σ' τ' θ' α', n ≤ n' → LI n' σ' θ' α' → SW G 15 mL_law Q a b 1833 [some (.ref 1099), some (.ref 1), some (.ref 120), some (.ref 133), some (.int (nI i)), none, none] [] (n', σ', τ', θ')) : SW G 15 mL_law Q a b 375 [some (.ref 1099), some (.ref 1), some (.ref 120), some (.ref 133), some (.int (nI i)), none, none] [] (n, σ, τ, θ) := by
  refine SW.aload_n dL_law_375 rfl ?_
  refine SW.cvi0 kV_L_33 (by decide) aw_cl9 kp_1 (by decide) (hI.1.le (by decide)) rfl (Nat.le_of_ble_eq_true rfl) dL_law_376 (p9_where hI.1 ?_)
  refine SW.aload_n dL_law_379 rfl ?_
  refine SW.cvi0 kV_L_36 (by decide) aw_cl10 kp_120 (by decide) (hI.1.le (by decide)) rfl (Nat.le_of_ble_eq_true rfl) dL_law_380 (p10_where hI.1 (fun σ2 h2 => ?_))
  refine SW.icmp_eq 1833 dL_law_383 (by decide) (fun _ => ?_) (fun h => absurd ?_ h)
  · exact kk n σ2 τ θ α (Nat.le_refl _) (hI.s h2)
  · exact li_where hI
set_option maxHeartbeats 1000000 in
theorem lc_388 (hS : SCR G N xs) (hi : i + 7 ≤ N) (hI : LI n σ θ α) (kk : ∀ n' σ' τ' θ' α', n ≤ n' → LI n' σ' θ' α' → SW G 15 mL_law Q a b 1833 [some (.ref 1099), some (.ref 1), some (.ref 120), some (.ref 133), some (.int (nI i)), none, none] [] (n', σ', τ', θ')) : SW G 15 mL_law Q a b 388 [some (.ref 1099), some (.ref 1), some (.ref 120), some (.ref 133), some (.int (nI i)), none, none] [] (n, σ, τ, θ) := by
  refine SW.aload_n dL_law_388 rfl ?_
  refine SW.aload_n dL_law_389 rfl ?_
  refine SW.iload dL_law_390 rfl ?_
  refine SW.iconst (v := (1 : Int32)) dL_law_392 (by decide) ?_
  refine SW.iadd dL_law_393 ?_
  refine SW.sald hS (li_in hS.1 hi (j := 1) (by decide)) dL_law_394 ?_
  refine SW.aload_n dL_law_395 rfl ?_
  refine SW.iload dL_law_396 rfl ?_
  refine SW.iconst (v := (2 : Int32)) dL_law_398 (by decide) ?_
  refine SW.iadd dL_law_399 ?_
  refine SW.sald hS (li_in hS.1 hi (j := 2) (by decide)) dL_law_400 ?_
  refine SW.cvi2 kV_L_37 (by decide) aw_cl9 kp_1 (by decide) (hI.1.le (by decide)) rfl (Nat.le_of_ble_eq_true rfl) dL_law_401 (p9_man hI.1 hI.2.1.1 hI.2.1.2.1 hI.2.2.2.v (fun σ1 τ1 h1 => ?_))
  refine SW.aload_n dL_law_404 rfl ?_
  refine SW.aload_n dL_law_405 rfl ?_
  refine SW.iload dL_law_406 rfl ?_
  refine SW.iconst (v := (1 : Int32)) dL_law_408 (by decide) ?_
  refine SW.iadd dL_law_409 ?_
  refine SW.sald hS (li_in hS.1 hi (j := 1) (by decide)) dL_law_410 ?_
  refine SW.aload_n dL_law_411 rfl ?_
  refine SW.iload dL_law_412 rfl ?_
  refine SW.iconst (v := (2 : Int32)) dL_law_414 (by decide) ?_
  refine SW.iadd dL_law_415 ?_
  refine SW.sald hS (li_in hS.1 hi (j := 2) (by decide)) dL_law_416 ?_
  refine SW.cvi2 kV_L_41 (by decide) aw_cl10 kp_120 (by decide) (hI.1.le (by decide)) rfl (Nat.le_of_ble_eq_true rfl) dL_law_417 (p10_man hI.1 (hI.v1 h1) (hI.h1 h1) (fun σ2 h2 => ?_))
  rw [hI.e3 h1, hI.e5 h1] at h2 ⊢
  refine SW.icmp_eq 1833 dL_law_420 (by decide) (fun _ => ?_) (fun h => absurd rfl h)
  exact kk n σ2 τ1 θ _ (Nat.le_refl _) (hI.q h1 h2 nw_man)
set_option maxHeartbeats 1000000 in
theorem lc_425 (hS : SCR G N xs) (hi : i + 7 ≤ N) (hI : LI n σ θ α) (kk : ∀ n' σ' τ' θ' α', n ≤ n' → LI n' σ' θ' α' → SW G 15 mL_law Q a b 1833 [some (.ref 1099), some (.ref 1), some (.ref 120), some (.ref 133), some (.int (nI i)), none, none] [] (n', σ', τ', θ')) : SW G 15 mL_law Q a b 425 [some (.ref 1099), some (.ref 1), some (.ref 120), some (.ref 133), some (.int (nI i)), none, none] [] (n, σ, τ, θ) := by
  refine SW.aload_n dL_law_425 rfl ?_
  refine SW.aload_n dL_law_426 rfl ?_
  refine SW.iload dL_law_427 rfl ?_
  refine SW.iconst (v := (1 : Int32)) dL_law_429 (by decide) ?_
  refine SW.iadd dL_law_430 ?_
  refine SW.sald hS (li_in hS.1 hi (j := 1) (by decide)) dL_law_431 ?_
  refine SW.aload_n dL_law_432 rfl ?_
  refine SW.iload dL_law_433 rfl ?_
  refine SW.iconst (v := (2 : Int32)) dL_law_435 (by decide) ?_
  refine SW.iadd dL_law_436 ?_
  refine SW.sald hS (li_in hS.1 hi (j := 2) (by decide)) dL_law_437 ?_
  refine SW.cvi2 kV_L_42 (by decide) aw_cl9 kp_1 (by decide) (hI.1.le (by decide)) rfl (Nat.le_of_ble_eq_true rfl) dL_law_438 (p9_debt hI.1 hI.2.1.1 hI.2.1.2.1 hI.2.2.2.v (fun σ1 τ1 h1 => ?_))
  refine SW.aload_n dL_law_441 rfl ?_
  refine SW.aload_n dL_law_442 rfl ?_
  refine SW.iload dL_law_443 rfl ?_
  refine SW.iconst (v := (1 : Int32)) dL_law_445 (by decide) ?_
  refine SW.iadd dL_law_446 ?_
  refine SW.sald hS (li_in hS.1 hi (j := 1) (by decide)) dL_law_447 ?_
  refine SW.aload_n dL_law_448 rfl ?_
  refine SW.iload dL_law_449 rfl ?_
  refine SW.iconst (v := (2 : Int32)) dL_law_451 (by decide) ?_
  refine SW.iadd dL_law_452 ?_
  refine SW.sald hS (li_in hS.1 hi (j := 2) (by decide)) dL_law_453 ?_
  refine SW.cvi2 kV_L_45 (by decide) aw_cl10 kp_120 (by decide) (hI.1.le (by decide)) rfl (Nat.le_of_ble_eq_true rfl) dL_law_454 (p10_debt hI.1 (hI.v1 h1) (hI.h1 h1) (fun σ2 h2 => ?_))
  rw [hI.e3 h1, hI.e5 h1] at h2 ⊢
  refine SW.icmp_eq 1833 dL_law_457 (by decide) (fun _ => ?_) (fun h => absurd rfl h)
  exact kk n σ2 τ1 θ _ (Nat.le_refl _) (hI.q h1 h2 nw_debt)
set_option maxHeartbeats 1000000 in
theorem lc_462 (hS : SCR G N xs) (hi : i + 7 ≤ N) (hI : LI n σ θ α) (kk : ∀ n' σ' τ' θ' α', n ≤ n' → LI n' σ' θ' α' → SW G 15 mL_law Q a b 1833 [some (.ref 1099), some (.ref 1), some (.ref 120), some (.ref 133), some (.int (nI i)), none, none] [] (n', σ', τ', θ')) : SW G 15 mL_law Q a b 462 [some (.ref 1099), some (.ref 1), some (.ref 120), some (.ref 133), some (.int (nI i)), none, none] [] (n, σ, τ, θ) := by
  refine SW.aload_n dL_law_462 rfl ?_
  refine SW.aload_n dL_law_463 rfl ?_
  refine SW.iload dL_law_464 rfl ?_
  refine SW.iconst (v := (1 : Int32)) dL_law_466 (by decide) ?_
  refine SW.iadd dL_law_467 ?_
  refine SW.sald hS (li_in hS.1 hi (j := 1) (by decide)) dL_law_468 ?_
  refine SW.aload_n dL_law_469 rfl ?_
  refine SW.iload dL_law_470 rfl ?_
  refine SW.iconst (v := (2 : Int32)) dL_law_472 (by decide) ?_
  refine SW.iadd dL_law_473 ?_
  refine SW.sald hS (li_in hS.1 hi (j := 2) (by decide)) dL_law_474 ?_
  refine SW.cvi2 kV_L_46 (by decide) aw_cl9 kp_1 (by decide) (hI.1.le (by decide)) rfl (Nat.le_of_ble_eq_true rfl) dL_law_475 (p9_door hI.1 hI.2.1.1 hI.2.1.2.1 hI.2.2.2.v (fun σ1 τ1 h1 => ?_))
  refine SW.aload_n dL_law_478 rfl ?_
  refine SW.aload_n dL_law_479 rfl ?_
  refine SW.iload dL_law_480 rfl ?_
  refine SW.iconst (v := (1 : Int32)) dL_law_482 (by decide) ?_
  refine SW.iadd dL_law_483 ?_
  refine SW.sald hS (li_in hS.1 hi (j := 1) (by decide)) dL_law_484 ?_
  refine SW.aload_n dL_law_485 rfl ?_
  refine SW.iload dL_law_486 rfl ?_
  refine SW.iconst (v := (2 : Int32)) dL_law_488 (by decide) ?_
  refine SW.iadd dL_law_489 ?_
  refine SW.sald hS (li_in hS.1 hi (j := 2) (by decide)) dL_law_490 ?_
  refine SW.cvi2 kV_L_49 (by decide) aw_cl10 kp_120 (by decide) (hI.1.le (by decide)) rfl (Nat.le_of_ble_eq_true rfl) dL_law_491 (p10_door hI.1 (hI.v1 h1) (hI.h1 h1) (fun σ2 h2 => ?_))
  rw [hI.e3 h1, hI.e5 h1] at h2 ⊢
  refine SW.icmp_eq 1833 dL_law_494 (by decide) (fun _ => ?_) (fun h => absurd rfl h)
  exact kk n σ2 τ1 θ _ (Nat.le_refl _) (hI.q h1 h2 nw_door)
set_option maxHeartbeats 1000000 in
theorem lc_499 (hS : SCR G N xs) (hi : i + 7 ≤ N) (hI : LI n σ θ α) (kk : ∀ n' σ' τ' θ' α', n ≤ n' → LI n' σ' θ' α' → SW G 15 mL_law Q a b 1833 [some (.ref 1099), some (.ref 1), some (.ref 120), some (.ref 133), some (.int (nI i)), none, none] [] (n', σ', τ', θ')) : SW G 15 mL_law Q a b 499 [some (.ref 1099), some (.ref 1), some (.ref 120), some (.ref 133), some (.int (nI i)), none, none] [] (n, σ, τ, θ) := by
  refine SW.aload_n dL_law_499 rfl ?_
  refine SW.cvi0 kV_L_50 (by decide) aw_cl9 kp_1 (by decide) (hI.1.le (by decide)) rfl (Nat.le_of_ble_eq_true rfl) dL_law_500 (p9_heads hI.1 hI.2.1.1 hI.2.1.2.1 hI.2.2.2.v (fun σ1 τ1 h1 => ?_))
  refine SW.aload_n dL_law_503 rfl ?_
  refine SW.cvi0 kV_L_53 (by decide) aw_cl10 kp_120 (by decide) (hI.1.le (by decide)) rfl (Nat.le_of_ble_eq_true rfl) dL_law_504 (p10_heads hI.1 (hI.v1 h1) (hI.h1 h1) (fun σ2 h2 => ?_))
  rw [hI.e3 h1, hI.e5 h1] at h2 ⊢
  refine SW.icmp_eq 1833 dL_law_507 (by decide) (fun _ => ?_) (fun h => absurd rfl h)
  exact kk n σ2 τ1 θ _ (Nat.le_refl _) (hI.q h1 h2 nw_heads)
set_option maxHeartbeats 1000000 in
theorem lc_512 (hS : SCR G N xs) (hi : i + 7 ≤ N) (hI : LI n σ θ α) (kk : ∀ n' σ' τ' θ' α', n ≤ n' → LI n' σ' θ' α' → SW G 15 mL_law Q a b 1833 [some (.ref 1099), some (.ref 1), some (.ref 120), some (.ref 133), some (.int (nI i)), none, none] [] (n', σ', τ', θ')) : SW G 15 mL_law Q a b 512 [some (.ref 1099), some (.ref 1), some (.ref 120), some (.ref 133), some (.int (nI i)), none, none] [] (n, σ, τ, θ) := by
  refine SW.aload_n dL_law_512 rfl ?_
  refine SW.cvi0 kV_L_54 (by decide) aw_cl9 kp_1 (by decide) (hI.1.le (by decide)) rfl (Nat.le_of_ble_eq_true rfl) dL_law_513 (p9_greatest hI.1 hI.2.1.1 hI.2.1.2.1 hI.2.2.2.v (fun σ1 τ1 h1 => ?_))
  refine SW.aload_n dL_law_516 rfl ?_
  refine SW.cvi0 kV_L_57 (by decide) aw_cl10 kp_120 (by decide) (hI.1.le (by decide)) rfl (Nat.le_of_ble_eq_true rfl) dL_law_517 (p10_greatest hI.1 (hI.v1 h1) (hI.h1 h1) (fun σ2 h2 => ?_))
  rw [hI.e3 h1, hI.e5 h1] at h2 ⊢
  refine SW.icmp_eq 1833 dL_law_520 (by decide) (fun _ => ?_) (fun h => absurd rfl h)
  exact kk n σ2 τ1 θ _ (Nat.le_refl _) (hI.q h1 h2 nw_greatest)
set_option maxHeartbeats 1000000 in
theorem lc_525 (hS : SCR G N xs) (hi : i + 7 ≤ N) (hI : LI n σ θ α) (kk : ∀ n' σ' τ' θ' α', n ≤ n' → LI n' σ' θ' α' → SW G 15 mL_law Q a b 1833 [some (.ref 1099), some (.ref 1), some (.ref 120), some (.ref 133), some (.int (nI i)), none, none] [] (n', σ', τ', θ')) : SW G 15 mL_law Q a b 525 [some (.ref 1099), some (.ref 1), some (.ref 120), some (.ref 133), some (.int (nI i)), none, none] [] (n, σ, τ, θ) := by
  refine SW.aload_n dL_law_525 rfl ?_
  refine SW.cvi0 kV_L_58 (by decide) aw_cl9 kp_1 (by decide) (hI.1.le (by decide)) rfl (Nat.le_of_ble_eq_true rfl) dL_law_526 (p9_bald hI.1 hI.2.1.1 hI.2.1.2.1 hI.2.2.2.v (fun σ1 τ1 h1 => ?_))
  refine SW.aload_n dL_law_529 rfl ?_
  refine SW.cvi0 kV_L_61 (by decide) aw_cl10 kp_120 (by decide) (hI.1.le (by decide)) rfl (Nat.le_of_ble_eq_true rfl) dL_law_530 (p10_bald hI.1 (hI.v1 h1) (hI.h1 h1) (fun σ2 h2 => ?_))
  rw [hI.e3 h1, hI.e5 h1] at h2 ⊢
  refine SW.icmp_eq 1833 dL_law_533 (by decide) (fun _ => ?_) (fun h => absurd rfl h)
  exact kk n σ2 τ1 θ _ (Nat.le_refl _) (hI.q h1 h2 nw_bald)
set_option maxHeartbeats 1000000 in
theorem lc_538 (hS : SCR G N xs) (hi : i + 7 ≤ N) (hI : LI n σ θ α) (kk : ∀ n' σ' τ' θ' α', n ≤ n' → LI n' σ' θ' α' → SW G 15 mL_law Q a b 1833 [some (.ref 1099), some (.ref 1), some (.ref 120), some (.ref 133), some (.int (nI i)), none, none] [] (n', σ', τ', θ')) : SW G 15 mL_law Q a b 538 [some (.ref 1099), some (.ref 1), some (.ref 120), some (.ref 133), some (.int (nI i)), none, none] [] (n, σ, τ, θ) := by
  refine SW.aload_n dL_law_538 rfl ?_
  refine SW.aload_n dL_law_539 rfl ?_
  refine SW.iload dL_law_540 rfl ?_
  refine SW.iconst (v := (1 : Int32)) dL_law_542 (by decide) ?_
  refine SW.iadd dL_law_543 ?_
  refine SW.sald hS (li_in hS.1 hi (j := 1) (by decide)) dL_law_544 ?_
  refine SW.aload_n dL_law_545 rfl ?_
  refine SW.iload dL_law_546 rfl ?_
  refine SW.iconst (v := (2 : Int32)) dL_law_548 (by decide) ?_
  refine SW.iadd dL_law_549 ?_
  refine SW.sald hS (li_in hS.1 hi (j := 2) (by decide)) dL_law_550 ?_
  refine SW.cvi2 kV_L_62 (by decide) aw_cl9 kp_1 (by decide) (hI.1.le (by decide)) rfl (Nat.le_of_ble_eq_true rfl) dL_law_551 (p9_headIn hI.1 hI.2.1.1 hI.2.1.2.1 hI.2.2.2.v (fun σ1 τ1 h1 => ?_))
  refine SW.aload_n dL_law_554 rfl ?_
  refine SW.aload_n dL_law_555 rfl ?_
  refine SW.iload dL_law_556 rfl ?_
  refine SW.iconst (v := (1 : Int32)) dL_law_558 (by decide) ?_
  refine SW.iadd dL_law_559 ?_
  refine SW.sald hS (li_in hS.1 hi (j := 1) (by decide)) dL_law_560 ?_
  refine SW.aload_n dL_law_561 rfl ?_
  refine SW.iload dL_law_562 rfl ?_
  refine SW.iconst (v := (2 : Int32)) dL_law_564 (by decide) ?_
  refine SW.iadd dL_law_565 ?_
  refine SW.sald hS (li_in hS.1 hi (j := 2) (by decide)) dL_law_566 ?_
  refine SW.cvi2 kV_L_65 (by decide) aw_cl10 kp_120 (by decide) (hI.1.le (by decide)) rfl (Nat.le_of_ble_eq_true rfl) dL_law_567 (p10_headIn hI.1 (hI.v1 h1) (hI.h1 h1) (fun σ2 h2 => ?_))
  rw [hI.e3 h1, hI.e5 h1] at h2 ⊢
  refine SW.icmp_eq 1833 dL_law_570 (by decide) (fun _ => ?_) (fun h => absurd rfl h)
  exact kk n σ2 τ1 θ _ (Nat.le_refl _) (hI.q h1 h2 nw_headIn)
set_option maxHeartbeats 1000000 in
theorem lc_575 (hS : SCR G N xs) (hi : i + 7 ≤ N) (hI : LI n σ θ α) (kk : ∀ n' σ' τ' θ' α', n ≤ n' → LI n' σ' θ' α' → SW G 15 mL_law Q a b 1833 [some (.ref 1099), some (.ref 1), some (.ref 120), some (.ref 133), some (.int (nI i)), none, none] [] (n', σ', τ', θ')) : SW G 15 mL_law Q a b 575 [some (.ref 1099), some (.ref 1), some (.ref 120), some (.ref 133), some (.int (nI i)), none, none] [] (n, σ, τ, θ) := by
  refine SW.aload_n dL_law_575 rfl ?_
  refine SW.aload_n dL_law_576 rfl ?_
  refine SW.iload dL_law_577 rfl ?_
  refine SW.iconst (v := (1 : Int32)) dL_law_579 (by decide) ?_
  refine SW.iadd dL_law_580 ?_
  refine SW.sald hS (li_in hS.1 hi (j := 1) (by decide)) dL_law_581 ?_
  refine SW.aload_n dL_law_582 rfl ?_
  refine SW.iload dL_law_583 rfl ?_
  refine SW.iconst (v := (2 : Int32)) dL_law_585 (by decide) ?_
  refine SW.iadd dL_law_586 ?_
  refine SW.sald hS (li_in hS.1 hi (j := 2) (by decide)) dL_law_587 ?_
  refine SW.cvi2 kV_L_66 (by decide) aw_cl9 kp_1 (by decide) (hI.1.le (by decide)) rfl (Nat.le_of_ble_eq_true rfl) dL_law_588 (p9_when hI.1 hI.2.1.1 hI.2.1.2.1 hI.2.2.2.v (fun σ1 τ1 h1 => ?_))
  refine SW.aload_n dL_law_591 rfl ?_
  refine SW.aload_n dL_law_592 rfl ?_
  refine SW.iload dL_law_593 rfl ?_
  refine SW.iconst (v := (1 : Int32)) dL_law_595 (by decide) ?_
  refine SW.iadd dL_law_596 ?_
  refine SW.sald hS (li_in hS.1 hi (j := 1) (by decide)) dL_law_597 ?_
  refine SW.aload_n dL_law_598 rfl ?_
  refine SW.iload dL_law_599 rfl ?_
  refine SW.iconst (v := (2 : Int32)) dL_law_601 (by decide) ?_
  refine SW.iadd dL_law_602 ?_
  refine SW.sald hS (li_in hS.1 hi (j := 2) (by decide)) dL_law_603 ?_
  refine SW.cvi2 kV_L_69 (by decide) aw_cl10 kp_120 (by decide) (hI.1.le (by decide)) rfl (Nat.le_of_ble_eq_true rfl) dL_law_604 (p10_when hI.1 (hI.v1 h1) (hI.h1 h1) (fun σ2 h2 => ?_))
  rw [hI.e3 h1, hI.e5 h1] at h2 ⊢
  refine SW.icmp_eq 1833 dL_law_607 (by decide) (fun _ => ?_) (fun h => absurd rfl h)
  exact kk n σ2 τ1 θ _ (Nat.le_refl _) (hI.q h1 h2 nw_when)
set_option maxHeartbeats 1000000 in
theorem lc_612 (hS : SCR G N xs) (hi : i + 7 ≤ N) (hI : LI n σ θ α) (kk : ∀ n' σ' τ' θ' α', n ≤ n' → LI n' σ' θ' α' → SW G 15 mL_law Q a b 1833 [some (.ref 1099), some (.ref 1), some (.ref 120), some (.ref 133), some (.int (nI i)), none, none] [] (n', σ', τ', θ')) : SW G 15 mL_law Q a b 612 [some (.ref 1099), some (.ref 1), some (.ref 120), some (.ref 133), some (.int (nI i)), none, none] [] (n, σ, τ, θ) := by
  refine SW.aload_n dL_law_612 rfl ?_
  refine SW.cvi0 kV_L_70 (by decide) aw_cl9 kp_1 (by decide) (hI.1.le (by decide)) rfl (Nat.le_of_ble_eq_true rfl) dL_law_613 (p9_worst hI.1 hI.2.1.1 hI.2.1.2.1 hI.2.2.2.v (fun σ1 τ1 h1 => ?_))
  refine SW.aload_n dL_law_616 rfl ?_
  refine SW.cvi0 kV_L_73 (by decide) aw_cl10 kp_120 (by decide) (hI.1.le (by decide)) rfl (Nat.le_of_ble_eq_true rfl) dL_law_617 (p10_worst hI.1 (hI.v1 h1) (hI.h1 h1) (hI.s1 h1) (fun σ2 h2 => ?_))
  rw [hI.e3 h1, hI.e5 h1] at h2 ⊢
  refine SW.icmp_eq 1833 dL_law_620 (by decide) (fun _ => ?_) (fun h => absurd rfl h)
  exact kk n σ2 τ1 θ _ (Nat.le_refl _) (hI.q h1 h2 nw_worst)
set_option maxHeartbeats 1000000 in
theorem lc_625 (hS : SCR G N xs) (hi : i + 7 ≤ N) (hI : LI n σ θ α) (kk : ∀ n' σ' τ' θ' α', n ≤ n' → LI n' σ' θ' α' → SW G 15 mL_law Q a b 1833 [some (.ref 1099), some (.ref 1), some (.ref 120), some (.ref 133), some (.int (nI i)), none, none] [] (n', σ', τ', θ')) : SW G 15 mL_law Q a b 625 [some (.ref 1099), some (.ref 1), some (.ref 120), some (.ref 133), some (.int (nI i)), none, none] [] (n, σ, τ, θ) := by
  refine SW.aload_n dL_law_625 rfl ?_
  refine SW.aload_n dL_law_626 rfl ?_
  refine SW.iload dL_law_627 rfl ?_
  refine SW.iconst (v := (1 : Int32)) dL_law_629 (by decide) ?_
  refine SW.iadd dL_law_630 ?_
  refine SW.sald hS (li_in hS.1 hi (j := 1) (by decide)) dL_law_631 ?_
  refine SW.aload_n dL_law_632 rfl ?_
  refine SW.iload dL_law_633 rfl ?_
  refine SW.iconst (v := (2 : Int32)) dL_law_635 (by decide) ?_
  refine SW.iadd dL_law_636 ?_
  refine SW.sald hS (li_in hS.1 hi (j := 2) (by decide)) dL_law_637 ?_
  refine SW.cvi2 kV_L_74 (by decide) aw_cl9 kp_1 (by decide) (hI.1.le (by decide)) rfl (Nat.le_of_ble_eq_true rfl) dL_law_638 (p9_shutIn hI.1 hI.2.1.1 hI.2.1.2.1 hI.2.2.2.v (fun σ1 τ1 h1 => ?_))
  refine SW.aload_n dL_law_641 rfl ?_
  refine SW.aload_n dL_law_642 rfl ?_
  refine SW.iload dL_law_643 rfl ?_
  refine SW.iconst (v := (1 : Int32)) dL_law_645 (by decide) ?_
  refine SW.iadd dL_law_646 ?_
  refine SW.sald hS (li_in hS.1 hi (j := 1) (by decide)) dL_law_647 ?_
  refine SW.aload_n dL_law_648 rfl ?_
  refine SW.iload dL_law_649 rfl ?_
  refine SW.iconst (v := (2 : Int32)) dL_law_651 (by decide) ?_
  refine SW.iadd dL_law_652 ?_
  refine SW.sald hS (li_in hS.1 hi (j := 2) (by decide)) dL_law_653 ?_
  refine SW.cvi2 kV_L_77 (by decide) aw_cl10 kp_120 (by decide) (hI.1.le (by decide)) rfl (Nat.le_of_ble_eq_true rfl) dL_law_654 (p10_shutIn hI.1 (hI.v1 h1) (hI.h1 h1) (hI.s1 h1) (fun σ2 h2 => ?_))
  rw [hI.e3 h1, hI.e5 h1] at h2 ⊢
  refine SW.icmp_eq 1833 dL_law_657 (by decide) (fun _ => ?_) (fun h => absurd rfl h)
  exact kk n σ2 τ1 θ _ (Nat.le_refl _) (hI.q h1 h2 nw_shutIn)
set_option maxHeartbeats 1000000 in
theorem lc_662 (hS : SCR G N xs) (hi : i + 7 ≤ N) (hI : LI n σ θ α) (kk : ∀ n' σ' τ' θ' α', n ≤ n' → LI n' σ' θ' α' → SW G 15 mL_law Q a b 1833 [some (.ref 1099), some (.ref 1), some (.ref 120), some (.ref 133), some (.int (nI i)), none, none] [] (n', σ', τ', θ')) : SW G 15 mL_law Q a b 662 [some (.ref 1099), some (.ref 1), some (.ref 120), some (.ref 133), some (.int (nI i)), none, none] [] (n, σ, τ, θ) := by
  refine SW.aload_n dL_law_662 rfl ?_
  refine SW.aload_n dL_law_663 rfl ?_
  refine SW.iload dL_law_664 rfl ?_
  refine SW.iconst (v := (1 : Int32)) dL_law_666 (by decide) ?_
  refine SW.iadd dL_law_667 ?_
  refine SW.sald hS (li_in hS.1 hi (j := 1) (by decide)) dL_law_668 ?_
  refine SW.aload_n dL_law_669 rfl ?_
  refine SW.iload dL_law_670 rfl ?_
  refine SW.iconst (v := (2 : Int32)) dL_law_672 (by decide) ?_
  refine SW.iadd dL_law_673 ?_
  refine SW.sald hS (li_in hS.1 hi (j := 2) (by decide)) dL_law_674 ?_
  refine SW.cvi2 kV_L_78 (by decide) aw_cl9 kp_1 (by decide) (hI.1.le (by decide)) rfl (Nat.le_of_ble_eq_true rfl) dL_law_675 (p9_payFor hI.1 hI.2.1.1 hI.2.1.2.1 hI.2.2.2.v hI.2.2.2.m (fun σ1 τ1 h1 => ?_))
  refine SW.aload_n dL_law_678 rfl ?_
  refine SW.aload_n dL_law_679 rfl ?_
  refine SW.iload dL_law_680 rfl ?_
  refine SW.iconst (v := (1 : Int32)) dL_law_682 (by decide) ?_
  refine SW.iadd dL_law_683 ?_
  refine SW.sald hS (li_in hS.1 hi (j := 1) (by decide)) dL_law_684 ?_
  refine SW.aload_n dL_law_685 rfl ?_
  refine SW.iload dL_law_686 rfl ?_
  refine SW.iconst (v := (2 : Int32)) dL_law_688 (by decide) ?_
  refine SW.iadd dL_law_689 ?_
  refine SW.sald hS (li_in hS.1 hi (j := 2) (by decide)) dL_law_690 ?_
  refine SW.cvi2 kV_L_81 (by decide) aw_cl10 kp_120 (by decide) (hI.1.le (by decide)) rfl (Nat.le_of_ble_eq_true rfl) dL_law_691 (p10_payFor hI.1 (hI.v1 h1) (hI.h1 h1) (hI.s1 h1) (fun σ2 h2 => ?_))
  rw [hI.e3 h1, hI.e5 h1] at h2 ⊢
  refine SW.icmp_eq 1833 dL_law_694 (by decide) (fun _ => ?_) (fun h => absurd rfl h)
  exact kk n σ2 τ1 θ _ (Nat.le_refl _) (hI.q h1 h2 nw_payFor)
set_option maxHeartbeats 1000000 in
theorem lc_699 (hS : SCR G N xs) (hi : i + 7 ≤ N) (hI : LI n σ θ α) (kk : ∀ n' σ' τ' θ' α', n ≤ n' → LI n' σ' θ' α' → SW G 15 mL_law Q a b 1833 [some (.ref 1099), some (.ref 1), some (.ref 120), some (.ref 133), some (.int (nI i)), none, none] [] (n', σ', τ', θ')) : SW G 15 mL_law Q a b 699 [some (.ref 1099), some (.ref 1), some (.ref 120), some (.ref 133), some (.int (nI i)), none, none] [] (n, σ, τ, θ) := by
  refine SW.aload_n dL_law_699 rfl ?_
  refine SW.cvi0 kV_L_82 (by decide) aw_cl9 kp_1 (by decide) (hI.1.le (by decide)) rfl (Nat.le_of_ble_eq_true rfl) dL_law_700 (p9_payAll hI.1 hI.2.1.1 hI.2.1.2.1 hI.2.2.2.v hI.2.2.2.m (fun σ1 τ1 h1 => ?_))
  refine SW.aload_n dL_law_703 rfl ?_
  refine SW.cvi0 kV_L_85 (by decide) aw_cl10 kp_120 (by decide) (hI.1.le (by decide)) rfl (Nat.le_of_ble_eq_true rfl) dL_law_704 (p10_payAll hI.1 (hI.v1 h1) (hI.h1 h1) (hI.s1 h1) (fun σ2 h2 => ?_))
  rw [hI.e3 h1, hI.e5 h1] at h2 ⊢
  refine SW.icmp_eq 1833 dL_law_707 (by decide) (fun _ => ?_) (fun h => absurd rfl h)
  exact kk n σ2 τ1 θ _ (Nat.le_refl _) (hI.q h1 h2 nw_payAll)
set_option maxHeartbeats 1000000 in
theorem lc_712 (hS : SCR G N xs) (hi : i + 7 ≤ N) (hI : LI n σ θ α) (kk : ∀ n' σ' τ' θ' α', n ≤ n' → LI n' σ' θ' α' → SW G 15 mL_law Q a b 1833 [some (.ref 1099), some (.ref 1), some (.ref 120), some (.ref 133), some (.int (nI i)), none, none] [] (n', σ', τ', θ')) : SW G 15 mL_law Q a b 712 [some (.ref 1099), some (.ref 1), some (.ref 120), some (.ref 133), some (.int (nI i)), none, none] [] (n, σ, τ, θ) := by
  refine SW.aload_n dL_law_712 rfl ?_
  refine SW.cvi0 kV_L_86 (by decide) aw_cl9 kp_1 (by decide) (hI.1.le (by decide)) rfl (Nat.le_of_ble_eq_true rfl) dL_law_713 (p9_passers hI.1 hI.2.1.1 hI.2.1.2.1 hI.2.2.2.v (fun σ1 τ1 h1 => ?_))
  refine SW.aload_n dL_law_716 rfl ?_
  refine SW.cvi0 kV_L_89 (by decide) aw_cl10 kp_120 (by decide) (hI.1.le (by decide)) rfl (Nat.le_of_ble_eq_true rfl) dL_law_717 (p10_passers hI.1 (hI.v1 h1) (hI.h1 h1) (fun σ2 h2 => ?_))
  rw [hI.e3 h1, hI.e5 h1] at h2 ⊢
  refine SW.icmp_eq 1833 dL_law_720 (by decide) (fun _ => ?_) (fun h => absurd rfl h)
  exact kk n σ2 τ1 θ _ (Nat.le_refl _) (hI.q h1 h2 nw_passers)
set_option maxHeartbeats 1000000 in
theorem lc_725 (hS : SCR G N xs) (hi : i + 7 ≤ N) (hI : LI n σ θ α) (kk : ∀ n' σ' τ' θ' α', n ≤ n' → LI n' σ' θ' α' → SW G 15 mL_law Q a b 1833 [some (.ref 1099), some (.ref 1), some (.ref 120), some (.ref 133), some (.int (nI i)), none, none] [] (n', σ', τ', θ')) : SW G 15 mL_law Q a b 725 [some (.ref 1099), some (.ref 1), some (.ref 120), some (.ref 133), some (.int (nI i)), none, none] [] (n, σ, τ, θ) := by
  refine SW.aload_n dL_law_725 rfl ?_
  refine SW.cvi0 kV_L_90 (by decide) aw_cl9 kp_1 (by decide) (hI.1.le (by decide)) rfl (Nat.le_of_ble_eq_true rfl) dL_law_726 (p9_shamed hI.1 hI.2.1.1 hI.2.1.2.1 hI.2.2.2.v hI.2.2.2.m (fun σ1 τ1 h1 => ?_))
  refine SW.aload_n dL_law_729 rfl ?_
  refine SW.cvi0 kV_L_93 (by decide) aw_cl10 kp_120 (by decide) (hI.1.le (by decide)) rfl (Nat.le_of_ble_eq_true rfl) dL_law_730 (p10_shamed hI.1 (hI.v1 h1) (hI.h1 h1) (hI.s1 h1) (fun σ2 h2 => ?_))
  rw [hI.e3 h1, hI.e5 h1] at h2 ⊢
  refine SW.icmp_eq 1833 dL_law_733 (by decide) (fun _ => ?_) (fun h => absurd rfl h)
  exact kk n σ2 τ1 θ _ (Nat.le_refl _) (hI.q h1 h2 nw_shamed)
set_option maxHeartbeats 1000000 in
theorem lc_738 (hS : SCR G N xs) (hi : i + 7 ≤ N) (hI : LI n σ θ α) (kk : ∀ n' σ' τ' θ' α', n ≤ n' → LI n' σ' θ' α' → SW G 15 mL_law Q a b 1833 [some (.ref 1099), some (.ref 1), some (.ref 120), some (.ref 133), some (.int (nI i)), none, none] [] (n', σ', τ', θ')) : SW G 15 mL_law Q a b 738 [some (.ref 1099), some (.ref 1), some (.ref 120), some (.ref 133), some (.int (nI i)), none, none] [] (n, σ, τ, θ) := by
  refine SW.aload_n dL_law_738 rfl ?_
  refine SW.aload_n dL_law_739 rfl ?_
  refine SW.iload dL_law_740 rfl ?_
  refine SW.iconst (v := (1 : Int32)) dL_law_742 (by decide) ?_
  refine SW.iadd dL_law_743 ?_
  refine SW.sald hS (li_in hS.1 hi (j := 1) (by decide)) dL_law_744 ?_
  refine SW.cvi1 kV_L_94 (by decide) aw_cl9 kp_1 (by decide) (hI.1.le (by decide)) rfl (Nat.le_of_ble_eq_true rfl) dL_law_745 (p9_cheapest hI.1 hI.2.1.1 hI.2.1.2.1 hI.2.2.2.v hI.2.2.2.m (fun σ1 τ1 h1 => ?_))
  refine SW.aload_n dL_law_748 rfl ?_
  refine SW.aload_n dL_law_749 rfl ?_
  refine SW.iload dL_law_750 rfl ?_
  refine SW.iconst (v := (1 : Int32)) dL_law_752 (by decide) ?_
  refine SW.iadd dL_law_753 ?_
  refine SW.sald hS (li_in hS.1 hi (j := 1) (by decide)) dL_law_754 ?_
  refine SW.cvi1 kV_L_97 (by decide) aw_cl10 kp_120 (by decide) (hI.1.le (by decide)) rfl (Nat.le_of_ble_eq_true rfl) dL_law_755 (p10_cheapest hI.1 (hI.v1 h1) (hI.h1 h1) (fun σ2 h2 => ?_))
  rw [hI.e3 h1, hI.e5 h1] at h2 ⊢
  refine SW.icmp_eq 1833 dL_law_758 (by decide) (fun _ => ?_) (fun h => absurd rfl h)
  exact kk n σ2 τ1 θ _ (Nat.le_refl _) (hI.q h1 h2 nw_cheapest)
set_option maxHeartbeats 1000000 in
theorem lc_763 (hS : SCR G N xs) (hi : i + 7 ≤ N) (hI : LI n σ θ α) (kk : ∀ n' σ' τ' θ' α', n ≤ n' → LI n' σ' θ' α' → SW G 15 mL_law Q a b 1833 [some (.ref 1099), some (.ref 1), some (.ref 120), some (.ref 133), some (.int (nI i)), none, none] [] (n', σ', τ', θ')) : SW G 15 mL_law Q a b 763 [some (.ref 1099), some (.ref 1), some (.ref 120), some (.ref 133), some (.int (nI i)), none, none] [] (n, σ, τ, θ) := by
  refine SW.aload_n dL_law_763 rfl ?_
  refine SW.aload_n dL_law_764 rfl ?_
  refine SW.iload dL_law_765 rfl ?_
  refine SW.iconst (v := (1 : Int32)) dL_law_767 (by decide) ?_
  refine SW.iadd dL_law_768 ?_
  refine SW.sald hS (li_in hS.1 hi (j := 1) (by decide)) dL_law_769 ?_
  refine SW.cvi1 kV_L_98 (by decide) aw_cl9 kp_1 (by decide) (hI.1.le (by decide)) rfl (Nat.le_of_ble_eq_true rfl) dL_law_770 (p9_width hI.1 hI.2.1.1 hI.2.1.2.1 hI.2.2.2.v hI.2.2.2.m (fun σ1 τ1 h1 => ?_))
  refine SW.aload_n dL_law_773 rfl ?_
  refine SW.aload_n dL_law_774 rfl ?_
  refine SW.iload dL_law_775 rfl ?_
  refine SW.iconst (v := (1 : Int32)) dL_law_777 (by decide) ?_
  refine SW.iadd dL_law_778 ?_
  refine SW.sald hS (li_in hS.1 hi (j := 1) (by decide)) dL_law_779 ?_
  refine SW.cvi1 kV_L_101 (by decide) aw_cl10 kp_120 (by decide) (hI.1.le (by decide)) rfl (Nat.le_of_ble_eq_true rfl) dL_law_780 (p10_width hI.1 (hI.v1 h1) (hI.h1 h1) (hI.s1 h1) (fun σ2 h2 => ?_))
  rw [hI.e3 h1, hI.e5 h1] at h2 ⊢
  refine SW.icmp_eq 1833 dL_law_783 (by decide) (fun _ => ?_) (fun h => absurd rfl h)
  exact kk n σ2 τ1 θ _ (Nat.le_refl _) (hI.q h1 h2 nw_width)
set_option maxHeartbeats 1000000 in
theorem lc_788 (hS : SCR G N xs) (hi : i + 7 ≤ N) (hI : LI n σ θ α) (kk : ∀ n' σ' τ' θ' α', n ≤ n' → LI n' σ' θ' α' → SW G 15 mL_law Q a b 1833 [some (.ref 1099), some (.ref 1), some (.ref 120), some (.ref 133), some (.int (nI i)), none, none] [] (n', σ', τ', θ')) : SW G 15 mL_law Q a b 788 [some (.ref 1099), some (.ref 1), some (.ref 120), some (.ref 133), some (.int (nI i)), none, none] [] (n, σ, τ, θ) := by
  refine SW.aload_n dL_law_788 rfl ?_
  refine SW.cvi0 kV_L_102 (by decide) aw_cl9 kp_1 (by decide) (hI.1.le (by decide)) rfl (Nat.le_of_ble_eq_true rfl) dL_law_789 (p9_guests hI.1 hI.2.1.1 hI.2.1.2.1 hI.2.2.2.v (fun σ1 τ1 h1 => ?_))
  refine SW.aload_n dL_law_792 rfl ?_
  refine SW.cvi0 kV_L_105 (by decide) aw_cl10 kp_120 (by decide) (hI.1.le (by decide)) rfl (Nat.le_of_ble_eq_true rfl) dL_law_793 (p10_guests hI.1 (hI.v1 h1) (hI.h1 h1) (fun σ2 h2 => ?_))
  rw [hI.e3 h1, hI.e5 h1] at h2 ⊢
  refine SW.icmp_eq 1833 dL_law_796 (by decide) (fun _ => ?_) (fun h => absurd rfl h)
  exact kk n σ2 τ1 θ _ (Nat.le_refl _) (hI.q h1 h2 nw_guests)
set_option maxHeartbeats 1000000 in
theorem lc_801 (hS : SCR G N xs) (hi : i + 7 ≤ N) (hI : LI n σ θ α) (kk : ∀ n' σ' τ' θ' α', n ≤ n' → LI n' σ' θ' α' → SW G 15 mL_law Q a b 1833 [some (.ref 1099), some (.ref 1), some (.ref 120), some (.ref 133), some (.int (nI i)), none, none] [] (n', σ', τ', θ')) : SW G 15 mL_law Q a b 801 [some (.ref 1099), some (.ref 1), some (.ref 120), some (.ref 133), some (.int (nI i)), none, none] [] (n, σ, τ, θ) := by
  refine SW.aload_n dL_law_801 rfl ?_
  refine SW.aload_n dL_law_802 rfl ?_
  refine SW.iload dL_law_803 rfl ?_
  refine SW.iconst (v := (1 : Int32)) dL_law_805 (by decide) ?_
  refine SW.iadd dL_law_806 ?_
  refine SW.sald hS (li_in hS.1 hi (j := 1) (by decide)) dL_law_807 ?_
  refine SW.cvi1 kV_L_106 (by decide) aw_cl9 kp_1 (by decide) (hI.1.le (by decide)) rfl (Nat.le_of_ble_eq_true rfl) dL_law_808 (p9_doorOf hI.1 hI.2.1.1 hI.2.1.2.1 hI.2.2.2.v (fun σ1 τ1 h1 => ?_))
  refine SW.aload_n dL_law_811 rfl ?_
  refine SW.aload_n dL_law_812 rfl ?_
  refine SW.iload dL_law_813 rfl ?_
  refine SW.iconst (v := (1 : Int32)) dL_law_815 (by decide) ?_
  refine SW.iadd dL_law_816 ?_
  refine SW.sald hS (li_in hS.1 hi (j := 1) (by decide)) dL_law_817 ?_
  refine SW.cvi1 kV_L_109 (by decide) aw_cl10 kp_120 (by decide) (hI.1.le (by decide)) rfl (Nat.le_of_ble_eq_true rfl) dL_law_818 (p10_doorOf hI.1 (hI.v1 h1) (hI.h1 h1) (fun σ2 h2 => ?_))
  rw [hI.e3 h1, hI.e5 h1] at h2 ⊢
  refine SW.icmp_eq 1833 dL_law_821 (by decide) (fun _ => ?_) (fun h => absurd rfl h)
  exact kk n σ2 τ1 θ _ (Nat.le_refl _) (hI.q h1 h2 nw_doorOf)
set_option maxHeartbeats 1000000 in
theorem lc_826 (hS : SCR G N xs) (hi : i + 7 ≤ N) (hI : LI n σ θ α) (kk : ∀ n' σ' τ' θ' α', n ≤ n' → LI n' σ' θ' α' → SW G 15 mL_law Q a b 1833 [some (.ref 1099), some (.ref 1), some (.ref 120), some (.ref 133), some (.int (nI i)), none, none] [] (n', σ', τ', θ')) : SW G 15 mL_law Q a b 826 [some (.ref 1099), some (.ref 1), some (.ref 120), some (.ref 133), some (.int (nI i)), none, none] [] (n, σ, τ, θ) := by
  refine SW.aload_n dL_law_826 rfl ?_
  refine SW.aload_n dL_law_827 rfl ?_
  refine SW.iload dL_law_828 rfl ?_
  refine SW.iconst (v := (1 : Int32)) dL_law_830 (by decide) ?_
  refine SW.iadd dL_law_831 ?_
  refine SW.sald hS (li_in hS.1 hi (j := 1) (by decide)) dL_law_832 ?_
  refine SW.cvi1 kV_L_110 (by decide) aw_cl9 kp_1 (by decide) (hI.1.le (by decide)) rfl (Nat.le_of_ble_eq_true rfl) dL_law_833 (p9_ring hI.1 hI.2.1.1 hI.2.1.2.1 hI.2.2.2.v (fun σ1 τ1 h1 => ?_))
  refine SW.aload_n dL_law_836 rfl ?_
  refine SW.aload_n dL_law_837 rfl ?_
  refine SW.iload dL_law_838 rfl ?_
  refine SW.iconst (v := (1 : Int32)) dL_law_840 (by decide) ?_
  refine SW.iadd dL_law_841 ?_
  refine SW.sald hS (li_in hS.1 hi (j := 1) (by decide)) dL_law_842 ?_
  refine SW.cvi1 kV_L_113 (by decide) aw_cl10 kp_120 (by decide) (hI.1.le (by decide)) rfl (Nat.le_of_ble_eq_true rfl) dL_law_843 (p10_ring hI.1 (hI.v1 h1) (hI.h1 h1) (hI.s1 h1) (fun σ2 h2 => ?_))
  rw [hI.e3 h1, hI.e5 h1] at h2 ⊢
  refine SW.icmp_eq 1833 dL_law_846 (by decide) (fun _ => ?_) (fun h => absurd rfl h)
  exact kk n σ2 τ1 θ _ (Nat.le_refl _) (hI.q h1 h2 nw_ring)
set_option maxHeartbeats 1000000 in
theorem lc_851 (hS : SCR G N xs) (hi : i + 7 ≤ N) (hI : LI n σ θ α) (kk : ∀ n' σ' τ' θ' α', n ≤ n' → LI n' σ' θ' α' → SW G 15 mL_law Q a b 1833 [some (.ref 1099), some (.ref 1), some (.ref 120), some (.ref 133), some (.int (nI i)), none, none] [] (n', σ', τ', θ')) : SW G 15 mL_law Q a b 851 [some (.ref 1099), some (.ref 1), some (.ref 120), some (.ref 133), some (.int (nI i)), none, none] [] (n, σ, τ, θ) := by
  refine SW.aload_n dL_law_851 rfl ?_
  refine SW.aload_n dL_law_852 rfl ?_
  refine SW.iload dL_law_853 rfl ?_
  refine SW.iconst (v := (1 : Int32)) dL_law_855 (by decide) ?_
  refine SW.iadd dL_law_856 ?_
  refine SW.sald hS (li_in hS.1 hi (j := 1) (by decide)) dL_law_857 ?_
  refine SW.aload_n dL_law_858 rfl ?_
  refine SW.iload dL_law_859 rfl ?_
  refine SW.iconst (v := (2 : Int32)) dL_law_861 (by decide) ?_
  refine SW.iadd dL_law_862 ?_
  refine SW.sald hS (li_in hS.1 hi (j := 2) (by decide)) dL_law_863 ?_
  refine SW.cvi2 kV_L_114 (by decide) aw_cl9 kp_1 (by decide) (hI.1.le (by decide)) rfl (Nat.le_of_ble_eq_true rfl) dL_law_864 (p9_ringAt hI.1 hI.2.1.1 hI.2.1.2.1 hI.2.2.2.v (fun σ1 τ1 h1 => ?_))
  refine SW.aload_n dL_law_867 rfl ?_
  refine SW.aload_n dL_law_868 rfl ?_
  refine SW.iload dL_law_869 rfl ?_
  refine SW.iconst (v := (1 : Int32)) dL_law_871 (by decide) ?_
  refine SW.iadd dL_law_872 ?_
  refine SW.sald hS (li_in hS.1 hi (j := 1) (by decide)) dL_law_873 ?_
  refine SW.aload_n dL_law_874 rfl ?_
  refine SW.iload dL_law_875 rfl ?_
  refine SW.iconst (v := (2 : Int32)) dL_law_877 (by decide) ?_
  refine SW.iadd dL_law_878 ?_
  refine SW.sald hS (li_in hS.1 hi (j := 2) (by decide)) dL_law_879 ?_
  refine SW.cvi2 kV_L_117 (by decide) aw_cl10 kp_120 (by decide) (hI.1.le (by decide)) rfl (Nat.le_of_ble_eq_true rfl) dL_law_880 (p10_ringAt hI.1 (hI.v1 h1) (hI.h1 h1) (hI.s1 h1) (fun σ2 h2 => ?_))
  rw [hI.e3 h1, hI.e5 h1] at h2 ⊢
  refine SW.icmp_eq 1833 dL_law_883 (by decide) (fun _ => ?_) (fun h => absurd rfl h)
  exact kk n σ2 τ1 θ _ (Nat.le_refl _) (hI.q h1 h2 nw_ringAt)
set_option maxHeartbeats 1000000 in
theorem lc_888 (hS : SCR G N xs) (hi : i + 7 ≤ N) (hI : LI n σ θ α) (kk : ∀ n' σ' τ' θ' α', n ≤ n' → LI n' σ' θ' α' → SW G 15 mL_law Q a b 1833 [some (.ref 1099), some (.ref 1), some (.ref 120), some (.ref 133), some (.int (nI i)), none, none] [] (n', σ', τ', θ')) : SW G 15 mL_law Q a b 888 [some (.ref 1099), some (.ref 1), some (.ref 120), some (.ref 133), some (.int (nI i)), none, none] [] (n, σ, τ, θ) := by
  refine SW.aload_n dL_law_888 rfl ?_
  refine SW.aload_n dL_law_889 rfl ?_
  refine SW.iload dL_law_890 rfl ?_
  refine SW.iconst (v := (1 : Int32)) dL_law_892 (by decide) ?_
  refine SW.iadd dL_law_893 ?_
  refine SW.sald hS (li_in hS.1 hi (j := 1) (by decide)) dL_law_894 ?_
  refine SW.cvi1 kV_L_118 (by decide) aw_cl9 kp_1 (by decide) (hI.1.le (by decide)) rfl (Nat.le_of_ble_eq_true rfl) dL_law_895 (p9_ringSum hI.1 hI.2.1.1 hI.2.1.2.1 hI.2.2.2.v hI.2.2.2.m (fun σ1 τ1 h1 => ?_))
  refine SW.aload_n dL_law_898 rfl ?_
  refine SW.aload_n dL_law_899 rfl ?_
  refine SW.iload dL_law_900 rfl ?_
  refine SW.iconst (v := (1 : Int32)) dL_law_902 (by decide) ?_
  refine SW.iadd dL_law_903 ?_
  refine SW.sald hS (li_in hS.1 hi (j := 1) (by decide)) dL_law_904 ?_
  refine SW.cvi1 kV_L_121 (by decide) aw_cl10 kp_120 (by decide) (hI.1.le (by decide)) rfl (Nat.le_of_ble_eq_true rfl) dL_law_905 (p10_ringSum hI.1 (hI.v1 h1) (hI.h1 h1) (hI.s1 h1) (fun σ2 h2 => ?_))
  rw [hI.e3 h1, hI.e5 h1] at h2 ⊢
  refine SW.icmp_eq 1833 dL_law_908 (by decide) (fun _ => ?_) (fun h => absurd rfl h)
  exact kk n σ2 τ1 θ _ (Nat.le_refl _) (hI.q h1 h2 nw_ringSum)
set_option maxHeartbeats 1000000 in
theorem lc_913 (hS : SCR G N xs) (hi : i + 7 ≤ N) (hI : LI n σ θ α) (kk : ∀ n' σ' τ' θ' α', n ≤ n' → LI n' σ' θ' α' → SW G 15 mL_law Q a b 1833 [some (.ref 1099), some (.ref 1), some (.ref 120), some (.ref 133), some (.int (nI i)), none, none] [] (n', σ', τ', θ')) : SW G 15 mL_law Q a b 913 [some (.ref 1099), some (.ref 1), some (.ref 120), some (.ref 133), some (.int (nI i)), none, none] [] (n, σ, τ, θ) := by
  refine SW.aload_n dL_law_913 rfl ?_
  refine SW.cvi0 kV_L_122 (by decide) aw_cl9 kp_1 (by decide) (hI.1.le (by decide)) rfl (Nat.le_of_ble_eq_true rfl) dL_law_914 (p9_bestRing hI.1 hI.2.1.1 hI.2.1.2.1 hI.2.2.2.v hI.2.2.2.m (fun σ1 τ1 h1 => ?_))
  refine SW.aload_n dL_law_917 rfl ?_
  refine SW.cvi0 kV_L_125 (by decide) aw_cl10 kp_120 (by decide) (hI.1.le (by decide)) rfl (Nat.le_of_ble_eq_true rfl) dL_law_918 (p10_bestRing hI.1 (hI.v1 h1) (hI.h1 h1) (hI.s1 h1) (fun σ2 h2 => ?_))
  rw [hI.e3 h1, hI.e5 h1] at h2 ⊢
  refine SW.icmp_eq 1833 dL_law_921 (by decide) (fun _ => ?_) (fun h => absurd rfl h)
  exact kk n σ2 τ1 θ _ (Nat.le_refl _) (hI.q h1 h2 nw_bestRing)
set_option maxHeartbeats 1000000 in
theorem lc_926 (hS : SCR G N xs) (hi : i + 7 ≤ N) (hI : LI n σ θ α) (kk : ∀ n' σ' τ' θ' α', n ≤ n' → LI n' σ' θ' α' → SW G 15 mL_law Q a b 1833 [some (.ref 1099), some (.ref 1), some (.ref 120), some (.ref 133), some (.int (nI i)), none, none] [] (n', σ', τ', θ')) : SW G 15 mL_law Q a b 926 [some (.ref 1099), some (.ref 1), some (.ref 120), some (.ref 133), some (.int (nI i)), none, none] [] (n, σ, τ, θ) := by
  refine SW.aload_n dL_law_926 rfl ?_
  refine SW.aload_n dL_law_927 rfl ?_
  refine SW.iload dL_law_928 rfl ?_
  refine SW.iconst (v := (1 : Int32)) dL_law_930 (by decide) ?_
  refine SW.iadd dL_law_931 ?_
  refine SW.sald hS (li_in hS.1 hi (j := 1) (by decide)) dL_law_932 ?_
  refine SW.cvi1 kV_L_126 (by decide) aw_cl9 kp_1 (by decide) (hI.1.le (by decide)) rfl (Nat.le_of_ble_eq_true rfl) dL_law_933 (p9_reach hI.1 hI.2.1.1 hI.2.1.2.1 hI.2.2.2.v (fun σ1 τ1 h1 => ?_))
  refine SW.aload_n dL_law_936 rfl ?_
  refine SW.aload_n dL_law_937 rfl ?_
  refine SW.iload dL_law_938 rfl ?_
  refine SW.iconst (v := (1 : Int32)) dL_law_940 (by decide) ?_
  refine SW.iadd dL_law_941 ?_
  refine SW.sald hS (li_in hS.1 hi (j := 1) (by decide)) dL_law_942 ?_
  refine SW.cvi1 kV_L_129 (by decide) aw_cl10 kp_120 (by decide) (hI.1.le (by decide)) rfl (Nat.le_of_ble_eq_true rfl) dL_law_943 (p10_reach hI.1 (hI.v1 h1) (hI.h1 h1) (fun σ2 h2 => ?_))
  rw [hI.e3 h1, hI.e5 h1] at h2 ⊢
  refine SW.icmp_eq 1833 dL_law_946 (by decide) (fun _ => ?_) (fun h => absurd rfl h)
  exact kk n σ2 τ1 θ _ (Nat.le_refl _) (hI.q h1 h2 nw_reach)
set_option maxHeartbeats 1000000 in
theorem lc_951 (hS : SCR G N xs) (hi : i + 7 ≤ N) (hI : LI n σ θ α) (kk : ∀ n' σ' τ' θ' α', n ≤ n' → LI n' σ' θ' α' → SW G 15 mL_law Q a b 1833 [some (.ref 1099), some (.ref 1), some (.ref 120), some (.ref 133), some (.int (nI i)), none, none] [] (n', σ', τ', θ')) : SW G 15 mL_law Q a b 951 [some (.ref 1099), some (.ref 1), some (.ref 120), some (.ref 133), some (.int (nI i)), none, none] [] (n, σ, τ, θ) := by
  refine SW.aload_n dL_law_951 rfl ?_
  refine SW.cvi0 kV_L_130 (by decide) aw_cl9 kp_1 (by decide) (hI.1.le (by decide)) rfl (Nat.le_of_ble_eq_true rfl) dL_law_952 (p9_fits hI.1 hI.2.1.1 hI.2.1.2.1 hI.2.2.2.v (fun σ1 τ1 h1 => ?_))
  refine SW.aload_n dL_law_955 rfl ?_
  refine SW.cvi0 kV_L_133 (by decide) aw_cl10 kp_120 (by decide) (hI.1.le (by decide)) rfl (Nat.le_of_ble_eq_true rfl) dL_law_956 (p10_fits hI.1 (hI.v1 h1) (hI.h1 h1) (fun σ2 h2 => ?_))
  rw [hI.e3 h1, hI.e5 h1] at h2 ⊢
  refine SW.icmp_eq 1833 dL_law_959 (by decide) (fun _ => ?_) (fun h => absurd rfl h)
  exact kk n σ2 τ1 θ _ (Nat.le_refl _) (hI.q h1 h2 nw_fits)
set_option maxHeartbeats 1000000 in
theorem lc_964 (hS : SCR G N xs) (hi : i + 7 ≤ N) (hI : LI n σ θ α) (kk : ∀ n' σ' τ' θ' α', n ≤ n' → LI n' σ' θ' α' → SW G 15 mL_law Q a b 1833 [some (.ref 1099), some (.ref 1), some (.ref 120), some (.ref 133), some (.int (nI i)), none, none] [] (n', σ', τ', θ')) : SW G 15 mL_law Q a b 964 [some (.ref 1099), some (.ref 1), some (.ref 120), some (.ref 133), some (.int (nI i)), none, none] [] (n, σ, τ, θ) := by
  refine SW.aload_n dL_law_964 rfl ?_
  refine SW.aload_n dL_law_965 rfl ?_
  refine SW.iload dL_law_966 rfl ?_
  refine SW.iconst (v := (1 : Int32)) dL_law_968 (by decide) ?_
  refine SW.iadd dL_law_969 ?_
  refine SW.sald hS (li_in hS.1 hi (j := 1) (by decide)) dL_law_970 ?_
  refine SW.cvi1 kV_L_134 (by decide) aw_cl9 kp_1 (by decide) (hI.1.le (by decide)) rfl (Nat.le_of_ble_eq_true rfl) dL_law_971 (p9_fitAt hI.1 hI.2.1.1 hI.2.1.2.1 hI.2.2.2.v (fun σ1 τ1 h1 => ?_))
  refine SW.aload_n dL_law_974 rfl ?_
  refine SW.aload_n dL_law_975 rfl ?_
  refine SW.iload dL_law_976 rfl ?_
  refine SW.iconst (v := (1 : Int32)) dL_law_978 (by decide) ?_
  refine SW.iadd dL_law_979 ?_
  refine SW.sald hS (li_in hS.1 hi (j := 1) (by decide)) dL_law_980 ?_
  refine SW.cvi1 kV_L_137 (by decide) aw_cl10 kp_120 (by decide) (hI.1.le (by decide)) rfl (Nat.le_of_ble_eq_true rfl) dL_law_981 (p10_fitAt hI.1 (hI.v1 h1) (hI.h1 h1) (fun σ2 h2 => ?_))
  rw [hI.e3 h1, hI.e5 h1] at h2 ⊢
  refine SW.icmp_eq 1833 dL_law_984 (by decide) (fun _ => ?_) (fun h => absurd rfl h)
  exact kk n σ2 τ1 θ _ (Nat.le_refl _) (hI.q h1 h2 nw_fitAt)
set_option maxHeartbeats 1000000 in
theorem lc_989 (hS : SCR G N xs) (hi : i + 7 ≤ N) (hI : LI n σ θ α) (kk : ∀ n' σ' τ' θ' α', n ≤ n' → LI n' σ' θ' α' → SW G 15 mL_law Q a b 1833 [some (.ref 1099), some (.ref 1), some (.ref 120), some (.ref 133), some (.int (nI i)), none, none] [] (n', σ', τ', θ')) : SW G 15 mL_law Q a b 989 [some (.ref 1099), some (.ref 1), some (.ref 120), some (.ref 133), some (.int (nI i)), none, none] [] (n, σ, τ, θ) := by
  refine SW.aload_n dL_law_989 rfl ?_
  refine SW.aload_n dL_law_990 rfl ?_
  refine SW.iload dL_law_991 rfl ?_
  refine SW.iconst (v := (1 : Int32)) dL_law_993 (by decide) ?_
  refine SW.iadd dL_law_994 ?_
  refine SW.sald hS (li_in hS.1 hi (j := 1) (by decide)) dL_law_995 ?_
  refine SW.aload_n dL_law_996 rfl ?_
  refine SW.iload dL_law_997 rfl ?_
  refine SW.iconst (v := (2 : Int32)) dL_law_999 (by decide) ?_
  refine SW.iadd dL_law_1000 ?_
  refine SW.sald hS (li_in hS.1 hi (j := 2) (by decide)) dL_law_1001 ?_
  refine SW.bool dL_law_1002 dL_law_1005 dL_law_1006 dL_law_1009 ?_
  refine SW.cvl2 kV_L_138 (by decide) aw_cl9 kp_1 (by decide) (hI.1.le (by decide)) rfl (Nat.le_of_ble_eq_true rfl) dL_law_1010 (p9_likely hI.1 hI.2.1.1 hI.2.1.2.1 hI.2.2.2.v (fun σ1 τ1 h1 => ?_))
  refine SW.aload_n dL_law_1013 rfl ?_
  refine SW.aload_n dL_law_1014 rfl ?_
  refine SW.iload dL_law_1015 rfl ?_
  refine SW.iconst (v := (1 : Int32)) dL_law_1017 (by decide) ?_
  refine SW.iadd dL_law_1018 ?_
  refine SW.sald hS (li_in hS.1 hi (j := 1) (by decide)) dL_law_1019 ?_
  refine SW.aload_n dL_law_1020 rfl ?_
  refine SW.iload dL_law_1021 rfl ?_
  refine SW.iconst (v := (2 : Int32)) dL_law_1023 (by decide) ?_
  refine SW.iadd dL_law_1024 ?_
  refine SW.sald hS (li_in hS.1 hi (j := 2) (by decide)) dL_law_1025 ?_
  refine SW.bool dL_law_1026 dL_law_1029 dL_law_1030 dL_law_1033 ?_
  refine SW.cvl2 kV_L_142 (by decide) aw_cl10 kp_120 (by decide) (hI.1.le (by decide)) rfl (Nat.le_of_ble_eq_true rfl) dL_law_1034 (p10_likely hI.1 (hI.v1 h1) (hI.h1 h1) (fun σ2 h2 => ?_))
  refine SW.lcmp dL_law_1037 ?_
  rw [hI.e3 h1, hI.e5 h1] at h2 ⊢
  refine SW.if_eq 1833 dL_law_1038 (by decide) (fun _ => ?_) (fun h => absurd (ps_lc _) h)
  exact kk n σ2 τ1 θ _ (Nat.le_refl _) (hI.q h1 h2 nw_likely)
set_option maxHeartbeats 1000000 in
theorem lc_1043 (hS : SCR G N xs) (hi : i + 7 ≤ N) (hI : LI n σ θ α) (kk : ∀ n' σ' τ' θ' α', n ≤ n' → LI n' σ' θ' α' → SW G 15 mL_law Q a b 1833 [some (.ref 1099), some (.ref 1), some (.ref 120), some (.ref 133), some (.int (nI i)), none, none] [] (n', σ', τ', θ')) : SW G 15 mL_law Q a b 1043 [some (.ref 1099), some (.ref 1), some (.ref 120), some (.ref 133), some (.int (nI i)), none, none] [] (n, σ, τ, θ) := by
  refine SW.aload_n dL_law_1043 rfl ?_
  refine SW.aload_n dL_law_1044 rfl ?_
  refine SW.iload dL_law_1045 rfl ?_
  refine SW.iconst (v := (1 : Int32)) dL_law_1047 (by decide) ?_
  refine SW.iadd dL_law_1048 ?_
  refine SW.sald hS (li_in hS.1 hi (j := 1) (by decide)) dL_law_1049 ?_
  refine SW.aload_n dL_law_1050 rfl ?_
  refine SW.iload dL_law_1051 rfl ?_
  refine SW.iconst (v := (2 : Int32)) dL_law_1053 (by decide) ?_
  refine SW.iadd dL_law_1054 ?_
  refine SW.sald hS (li_in hS.1 hi (j := 2) (by decide)) dL_law_1055 ?_
  refine SW.aload_n dL_law_1056 rfl ?_
  refine SW.iload dL_law_1057 rfl ?_
  refine SW.iconst (v := (3 : Int32)) dL_law_1059 (by decide) ?_
  refine SW.iadd dL_law_1060 ?_
  refine SW.sald hS (li_in hS.1 hi (j := 3) (by decide)) dL_law_1061 ?_
  refine SW.bool dL_law_1062 dL_law_1065 dL_law_1066 dL_law_1069 ?_
  refine SW.cvl3 kV_L_143 (by decide) aw_cl9 kp_1 (by decide) (hI.1.le (by decide)) rfl (Nat.le_of_ble_eq_true rfl) dL_law_1070 (p9_headIs hI.1 hI.2.1.1 hI.2.1.2.1 hI.2.2.2.v (fun σ1 τ1 h1 => ?_))
  refine SW.aload_n dL_law_1073 rfl ?_
  refine SW.aload_n dL_law_1074 rfl ?_
  refine SW.iload dL_law_1075 rfl ?_
  refine SW.iconst (v := (1 : Int32)) dL_law_1077 (by decide) ?_
  refine SW.iadd dL_law_1078 ?_
  refine SW.sald hS (li_in hS.1 hi (j := 1) (by decide)) dL_law_1079 ?_
  refine SW.aload_n dL_law_1080 rfl ?_
  refine SW.iload dL_law_1081 rfl ?_
  refine SW.iconst (v := (2 : Int32)) dL_law_1083 (by decide) ?_
  refine SW.iadd dL_law_1084 ?_
  refine SW.sald hS (li_in hS.1 hi (j := 2) (by decide)) dL_law_1085 ?_
  refine SW.aload_n dL_law_1086 rfl ?_
  refine SW.iload dL_law_1087 rfl ?_
  refine SW.iconst (v := (3 : Int32)) dL_law_1089 (by decide) ?_
  refine SW.iadd dL_law_1090 ?_
  refine SW.sald hS (li_in hS.1 hi (j := 3) (by decide)) dL_law_1091 ?_
  refine SW.bool dL_law_1092 dL_law_1095 dL_law_1096 dL_law_1099 ?_
  refine SW.cvl3 kV_L_147 (by decide) aw_cl10 kp_120 (by decide) (hI.1.le (by decide)) rfl (Nat.le_of_ble_eq_true rfl) dL_law_1100 (p10_headIs hI.1 (hI.v1 h1) (hI.h1 h1) (fun σ2 h2 => ?_))
  refine SW.lcmp dL_law_1103 ?_
  rw [hI.e3 h1, hI.e5 h1] at h2 ⊢
  refine SW.if_eq 1833 dL_law_1104 (by decide) (fun _ => ?_) (fun h => absurd (ps_lc _) h)
  exact kk n σ2 τ1 θ _ (Nat.le_refl _) (hI.q h1 h2 nw_headIs)
set_option maxHeartbeats 1000000 in
theorem lc_1109 (hS : SCR G N xs) (hi : i + 7 ≤ N) (hI : LI n σ θ α) (kk : ∀ n' σ' τ' θ' α', n ≤ n' → LI n' σ' θ' α' → SW G 15 mL_law Q a b 1833 [some (.ref 1099), some (.ref 1), some (.ref 120), some (.ref 133), some (.int (nI i)), none, none] [] (n', σ', τ', θ')) : SW G 15 mL_law Q a b 1109 [some (.ref 1099), some (.ref 1), some (.ref 120), some (.ref 133), some (.int (nI i)), none, none] [] (n, σ, τ, θ) := by
  refine SW.aload_n dL_law_1109 rfl ?_
  refine SW.cvi0 kV_L_148 (by decide) aw_cl9 kp_1 (by decide) (hI.1.le (by decide)) rfl (Nat.le_of_ble_eq_true rfl) dL_law_1110 (p9_likeliest hI.1 hI.2.1.1 hI.2.1.2.1 hI.2.2.2.v (fun σ1 τ1 h1 => ?_))
  refine SW.aload_n dL_law_1113 rfl ?_
  refine SW.cvi0 kV_L_151 (by decide) aw_cl10 kp_120 (by decide) (hI.1.le (by decide)) rfl (Nat.le_of_ble_eq_true rfl) dL_law_1114 (p10_likeliest hI.1 (hI.v1 h1) (hI.h1 h1) (fun σ2 h2 => ?_))
  rw [hI.e3 h1, hI.e5 h1] at h2 ⊢
  refine SW.icmp_eq 1833 dL_law_1117 (by decide) (fun _ => ?_) (fun h => absurd rfl h)
  exact kk n σ2 τ1 θ _ (Nat.le_refl _) (hI.q h1 h2 nw_likeliest)
set_option maxHeartbeats 1000000 in
theorem lc_1122 (hS : SCR G N xs) (hi : i + 7 ≤ N) (hI : LI n σ θ α) (kk : ∀ n' σ' τ' θ' α', n ≤ n' → LI n' σ' θ' α' → SW G 15 mL_law Q a b 1833 [some (.ref 1099), some (.ref 1), some (.ref 120), some (.ref 133), some (.int (nI i)), none, none] [] (n', σ', τ', θ')) : SW G 15 mL_law Q a b 1122 [some (.ref 1099), some (.ref 1), some (.ref 120), some (.ref 133), some (.int (nI i)), none, none] [] (n, σ, τ, θ) := by
  refine SW.aload_n dL_law_1122 rfl ?_
  refine SW.cvi0 kV_L_152 (by decide) aw_cl9 kp_1 (by decide) (hI.1.le (by decide)) rfl (Nat.le_of_ble_eq_true rfl) dL_law_1123 (p9_look hI.1 hI.2.1.1 hI.2.1.2.1 hI.2.2.2.v (fun σ1 τ1 h1 => ?_))
  refine SW.aload_n dL_law_1126 rfl ?_
  refine SW.cvi0 kV_L_155 (by decide) aw_cl10 kp_120 (by decide) (hI.1.le (by decide)) rfl (Nat.le_of_ble_eq_true rfl) dL_law_1127 (p10_look hI.1 (hI.v1 h1) (hI.h1 h1) (fun σ2 h2 => ?_))
  rw [hI.e3 h1, hI.e5 h1] at h2 ⊢
  refine SW.icmp_eq 1833 dL_law_1130 (by decide) (fun _ => ?_) (fun h => absurd rfl h)
  exact kk n σ2 τ1 θ _ (Nat.le_refl _) (hI.q h1 h2 nw_look)
set_option maxHeartbeats 1000000 in
theorem lc_1135 (hS : SCR G N xs) (hi : i + 7 ≤ N) (hI : LI n σ θ α) (kk : ∀ n' σ' τ' θ' α', n ≤ n' → LI n' σ' θ' α' → SW G 15 mL_law Q a b 1833 [some (.ref 1099), some (.ref 1), some (.ref 120), some (.ref 133), some (.int (nI i)), none, none] [] (n', σ', τ', θ')) : SW G 15 mL_law Q a b 1135 [some (.ref 1099), some (.ref 1), some (.ref 120), some (.ref 133), some (.int (nI i)), none, none] [] (n, σ, τ, θ) := by
  refine SW.aload_n dL_law_1135 rfl ?_
  refine SW.cvi0 kV_L_156 (by decide) aw_cl9 kp_1 (by decide) (hI.1.le (by decide)) rfl (Nat.le_of_ble_eq_true rfl) dL_law_1136 (p9_leaves hI.1 hI.2.1.1 hI.2.1.2.1 hI.2.2.2.v (fun σ1 τ1 h1 => ?_))
  refine SW.aload_n dL_law_1139 rfl ?_
  refine SW.cvi0 kV_L_159 (by decide) aw_cl10 kp_120 (by decide) (hI.1.le (by decide)) rfl (Nat.le_of_ble_eq_true rfl) dL_law_1140 (p10_leaves hI.1 (hI.v1 h1) (hI.h1 h1) (fun σ2 h2 => ?_))
  rw [hI.e3 h1, hI.e5 h1] at h2 ⊢
  refine SW.icmp_eq 1833 dL_law_1143 (by decide) (fun _ => ?_) (fun h => absurd rfl h)
  exact kk n σ2 τ1 θ _ (Nat.le_refl _) (hI.q h1 h2 nw_leaves)
set_option maxHeartbeats 1000000 in
theorem lc_1148 (hS : SCR G N xs) (hi : i + 7 ≤ N) (hI : LI n σ θ α) (kk : ∀ n' σ' τ' θ' α', n ≤ n' → LI n' σ' θ' α' → SW G 15 mL_law Q a b 1833 [some (.ref 1099), some (.ref 1), some (.ref 120), some (.ref 133), some (.int (nI i)), none, none] [] (n', σ', τ', θ')) : SW G 15 mL_law Q a b 1148 [some (.ref 1099), some (.ref 1), some (.ref 120), some (.ref 133), some (.int (nI i)), none, none] [] (n, σ, τ, θ) := by
  refine SW.aload_n dL_law_1148 rfl ?_
  refine SW.cvi0 kV_L_160 (by decide) aw_cl9 kp_1 (by decide) (hI.1.le (by decide)) rfl (Nat.le_of_ble_eq_true rfl) dL_law_1149 (p9_judge hI.1 hI.2.1.1 hI.2.1.2.1 hI.2.2.2.v (fun σ1 τ1 h1 => ?_))
  refine SW.aload_n dL_law_1152 rfl ?_
  refine SW.cvi0 kV_L_163 (by decide) aw_cl10 kp_120 (by decide) (hI.1.le (by decide)) rfl (Nat.le_of_ble_eq_true rfl) dL_law_1153 (p10_judge hI.1 (hI.v1 h1) (hI.h1 h1) (fun σ2 h2 => ?_))
  rw [hI.e3 h1, hI.e5 h1] at h2 ⊢
  refine SW.icmp_eq 1833 dL_law_1156 (by decide) (fun _ => ?_) (fun h => absurd rfl h)
  exact kk n σ2 τ1 θ _ (Nat.le_refl _) (hI.q h1 h2 nw_judge)
set_option maxHeartbeats 1000000 in
theorem lc_1161 (hS : SCR G N xs) (hi : i + 7 ≤ N) (hI : LI n σ θ α) (kk : ∀ n' σ' τ' θ' α', n ≤ n' → LI n' σ' θ' α' → SW G 15 mL_law Q a b 1833 [some (.ref 1099), some (.ref 1), some (.ref 120), some (.ref 133), some (.int (nI i)), none, none] [] (n', σ', τ', θ')) : SW G 15 mL_law Q a b 1161 [some (.ref 1099), some (.ref 1), some (.ref 120), some (.ref 133), some (.int (nI i)), none, none] [] (n, σ, τ, θ) := by
  refine SW.aload_n dL_law_1161 rfl ?_
  refine SW.aload_n dL_law_1162 rfl ?_
  refine SW.iload dL_law_1163 rfl ?_
  refine SW.iconst (v := (1 : Int32)) dL_law_1165 (by decide) ?_
  refine SW.iadd dL_law_1166 ?_
  refine SW.sald hS (li_in hS.1 hi (j := 1) (by decide)) dL_law_1167 ?_
  refine SW.aload_n dL_law_1168 rfl ?_
  refine SW.iload dL_law_1169 rfl ?_
  refine SW.iconst (v := (2 : Int32)) dL_law_1171 (by decide) ?_
  refine SW.iadd dL_law_1172 ?_
  refine SW.sald hS (li_in hS.1 hi (j := 2) (by decide)) dL_law_1173 ?_
  refine SW.aload_n dL_law_1174 rfl ?_
  refine SW.iload dL_law_1175 rfl ?_
  refine SW.iconst (v := (3 : Int32)) dL_law_1177 (by decide) ?_
  refine SW.iadd dL_law_1178 ?_
  refine SW.sald hS (li_in hS.1 hi (j := 3) (by decide)) dL_law_1179 ?_
  refine SW.aload_n dL_law_1180 rfl ?_
  refine SW.iload dL_law_1181 rfl ?_
  refine SW.iconst (v := (4 : Int32)) dL_law_1183 (by decide) ?_
  refine SW.iadd dL_law_1184 ?_
  refine SW.sald hS (li_in hS.1 hi (j := 4) (by decide)) dL_law_1185 ?_
  refine SW.bool dL_law_1186 dL_law_1189 dL_law_1190 dL_law_1193 ?_
  refine SW.aload_n dL_law_1194 rfl ?_
  refine SW.iload dL_law_1195 rfl ?_
  refine SW.iconst (v := (5 : Int32)) dL_law_1197 (by decide) ?_
  refine SW.iadd dL_law_1198 ?_
  refine SW.sald hS (li_in hS.1 hi (j := 5) (by decide)) dL_law_1199 ?_
  refine SW.bool dL_law_1200 dL_law_1203 dL_law_1204 dL_law_1207 ?_
  refine SW.aload_n dL_law_1208 rfl ?_
  refine SW.iload dL_law_1209 rfl ?_
  refine SW.bipush (v := (6 : Int32)) dL_law_1211 (by decide) ?_
  refine SW.iadd dL_law_1213 ?_
  refine SW.sald hS (li_in hS.1 hi (j := 6) (by decide)) dL_law_1214 ?_
  refine SW.bool dL_law_1215 dL_law_1218 dL_law_1219 dL_law_1222 ?_
  refine SW.cvi6 kV_L_164 (by decide) aw_cl9 kp_1 (by decide) (hI.1.le (by decide)) rfl (Nat.le_of_ble_eq_true rfl) dL_law_1223 (p9_duel hI.1 hI.2.1.1 hI.2.2.2.v (fun σ1 τ1 h1 => ?_))
  refine SW.aload_n dL_law_1226 rfl ?_
  refine SW.aload_n dL_law_1227 rfl ?_
  refine SW.iload dL_law_1228 rfl ?_
  refine SW.iconst (v := (1 : Int32)) dL_law_1230 (by decide) ?_
  refine SW.iadd dL_law_1231 ?_
  refine SW.sald hS (li_in hS.1 hi (j := 1) (by decide)) dL_law_1232 ?_
  refine SW.aload_n dL_law_1233 rfl ?_
  refine SW.iload dL_law_1234 rfl ?_
  refine SW.iconst (v := (2 : Int32)) dL_law_1236 (by decide) ?_
  refine SW.iadd dL_law_1237 ?_
  refine SW.sald hS (li_in hS.1 hi (j := 2) (by decide)) dL_law_1238 ?_
  refine SW.aload_n dL_law_1239 rfl ?_
  refine SW.iload dL_law_1240 rfl ?_
  refine SW.iconst (v := (3 : Int32)) dL_law_1242 (by decide) ?_
  refine SW.iadd dL_law_1243 ?_
  refine SW.sald hS (li_in hS.1 hi (j := 3) (by decide)) dL_law_1244 ?_
  refine SW.aload_n dL_law_1245 rfl ?_
  refine SW.iload dL_law_1246 rfl ?_
  refine SW.iconst (v := (4 : Int32)) dL_law_1248 (by decide) ?_
  refine SW.iadd dL_law_1249 ?_
  refine SW.sald hS (li_in hS.1 hi (j := 4) (by decide)) dL_law_1250 ?_
  refine SW.bool dL_law_1251 dL_law_1254 dL_law_1255 dL_law_1258 ?_
  refine SW.aload_n dL_law_1259 rfl ?_
  refine SW.iload dL_law_1260 rfl ?_
  refine SW.iconst (v := (5 : Int32)) dL_law_1262 (by decide) ?_
  refine SW.iadd dL_law_1263 ?_
  refine SW.sald hS (li_in hS.1 hi (j := 5) (by decide)) dL_law_1264 ?_
  refine SW.bool dL_law_1265 dL_law_1268 dL_law_1269 dL_law_1272 ?_
  refine SW.aload_n dL_law_1273 rfl ?_
  refine SW.iload dL_law_1274 rfl ?_
  refine SW.bipush (v := (6 : Int32)) dL_law_1276 (by decide) ?_
  refine SW.iadd dL_law_1278 ?_
  refine SW.sald hS (li_in hS.1 hi (j := 6) (by decide)) dL_law_1279 ?_
  refine SW.bool dL_law_1280 dL_law_1283 dL_law_1284 dL_law_1287 ?_
  refine SW.cvi6 kV_L_168 (by decide) aw_cl10 kp_120 (by decide) (hI.1.le (by decide)) rfl (Nat.le_of_ble_eq_true rfl) dL_law_1288 (p10_duel hI.1 (hI.v1 h1) (hI.h1 h1) (fun σ2 h2 => ?_))
  rw [hI.e3 h1] at h2 ⊢
  refine SW.icmp_eq 1833 dL_law_1291 (by decide) (fun _ => ?_) (fun h => absurd rfl h)
  exact kk n σ2 τ1 θ _ (Nat.le_refl _) (hI.q h1 h2 nw_duel)
set_option maxHeartbeats 1000000 in
theorem lc_1296 (hS : SCR G N xs) (hi : i + 7 ≤ N) (hI : LI n σ θ α) (kk : ∀ n' σ' τ' θ' α', n ≤ n' → LI n' σ' θ' α' → SW G 15 mL_law Q a b 1833 [some (.ref 1099), some (.ref 1), some (.ref 120), some (.ref 133), some (.int (nI i)), none, none] [] (n', σ', τ', θ')) : SW G 15 mL_law Q a b 1296 [some (.ref 1099), some (.ref 1), some (.ref 120), some (.ref 133), some (.int (nI i)), none, none] [] (n, σ, τ, θ) := by
  refine SW.aload_n dL_law_1296 rfl ?_
  refine SW.aload_n dL_law_1297 rfl ?_
  refine SW.iload dL_law_1298 rfl ?_
  refine SW.iconst (v := (1 : Int32)) dL_law_1300 (by decide) ?_
  refine SW.iadd dL_law_1301 ?_
  refine SW.sald hS (li_in hS.1 hi (j := 1) (by decide)) dL_law_1302 ?_
  refine SW.aload_n dL_law_1303 rfl ?_
  refine SW.iload dL_law_1304 rfl ?_
  refine SW.iconst (v := (2 : Int32)) dL_law_1306 (by decide) ?_
  refine SW.iadd dL_law_1307 ?_
  refine SW.sald hS (li_in hS.1 hi (j := 2) (by decide)) dL_law_1308 ?_
  refine SW.aload_n dL_law_1309 rfl ?_
  refine SW.iload dL_law_1310 rfl ?_
  refine SW.iconst (v := (3 : Int32)) dL_law_1312 (by decide) ?_
  refine SW.iadd dL_law_1313 ?_
  refine SW.sald hS (li_in hS.1 hi (j := 3) (by decide)) dL_law_1314 ?_
  refine SW.cvi3 kV_L_169 (by decide) aw_cl9 kp_1 (by decide) (hI.1.le (by decide)) rfl (Nat.le_of_ble_eq_true rfl) dL_law_1315 (p9_rests hI.1 hI.2.1.1 hI.2.2.2.v (fun σ1 τ1 h1 => ?_))
  refine SW.aload_n dL_law_1318 rfl ?_
  refine SW.aload_n dL_law_1319 rfl ?_
  refine SW.iload dL_law_1320 rfl ?_
  refine SW.iconst (v := (1 : Int32)) dL_law_1322 (by decide) ?_
  refine SW.iadd dL_law_1323 ?_
  refine SW.sald hS (li_in hS.1 hi (j := 1) (by decide)) dL_law_1324 ?_
  refine SW.aload_n dL_law_1325 rfl ?_
  refine SW.iload dL_law_1326 rfl ?_
  refine SW.iconst (v := (2 : Int32)) dL_law_1328 (by decide) ?_
  refine SW.iadd dL_law_1329 ?_
  refine SW.sald hS (li_in hS.1 hi (j := 2) (by decide)) dL_law_1330 ?_
  refine SW.aload_n dL_law_1331 rfl ?_
  refine SW.iload dL_law_1332 rfl ?_
  refine SW.iconst (v := (3 : Int32)) dL_law_1334 (by decide) ?_
  refine SW.iadd dL_law_1335 ?_
  refine SW.sald hS (li_in hS.1 hi (j := 3) (by decide)) dL_law_1336 ?_
  refine SW.cvi3 kV_L_173 (by decide) aw_cl10 kp_120 (by decide) (hI.1.le (by decide)) rfl (Nat.le_of_ble_eq_true rfl) dL_law_1337 (p10_rests hI.1 (hI.v1 h1) (hI.h1 h1) (fun σ2 h2 => ?_))
  rw [hI.e3 h1] at h2 ⊢
  refine SW.icmp_eq 1833 dL_law_1340 (by decide) (fun _ => ?_) (fun h => absurd rfl h)
  exact kk n σ2 τ1 θ _ (Nat.le_refl _) (hI.q h1 h2 nw_rests)
set_option maxHeartbeats 1000000 in
theorem lc_1345 (hS : SCR G N xs) (hi : i + 7 ≤ N) (hI : LI n σ θ α) (kk : ∀ n' σ' τ' θ' α', n ≤ n' → LI n' σ' θ' α' → SW G 15 mL_law Q a b 1833 [some (.ref 1099), some (.ref 1), some (.ref 120), some (.ref 133), some (.int (nI i)), none, none] [] (n', σ', τ', θ')) : SW G 15 mL_law Q a b 1345 [some (.ref 1099), some (.ref 1), some (.ref 120), some (.ref 133), some (.int (nI i)), none, none] [] (n, σ, τ, θ) := by
  refine SW.aload_n dL_law_1345 rfl ?_
  refine SW.aload_n dL_law_1346 rfl ?_
  refine SW.iload dL_law_1347 rfl ?_
  refine SW.iconst (v := (1 : Int32)) dL_law_1349 (by decide) ?_
  refine SW.iadd dL_law_1350 ?_
  refine SW.sald hS (li_in hS.1 hi (j := 1) (by decide)) dL_law_1351 ?_
  refine SW.aload_n dL_law_1352 rfl ?_
  refine SW.iload dL_law_1353 rfl ?_
  refine SW.iconst (v := (2 : Int32)) dL_law_1355 (by decide) ?_
  refine SW.iadd dL_law_1356 ?_
  refine SW.sald hS (li_in hS.1 hi (j := 2) (by decide)) dL_law_1357 ?_
  refine SW.aload_n dL_law_1358 rfl ?_
  refine SW.iload dL_law_1359 rfl ?_
  refine SW.iconst (v := (3 : Int32)) dL_law_1361 (by decide) ?_
  refine SW.iadd dL_law_1362 ?_
  refine SW.sald hS (li_in hS.1 hi (j := 3) (by decide)) dL_law_1363 ?_
  refine SW.cvi3 kV_L_174 (by decide) aw_cl9 kp_1 (by decide) (hI.1.le (by decide)) rfl (Nat.le_of_ble_eq_true rfl) dL_law_1364 (p9_rest hI.1 hI.2.1.1 hI.2.2.2.v (fun σ1 τ1 h1 => ?_))
  refine SW.aload_n dL_law_1367 rfl ?_
  refine SW.aload_n dL_law_1368 rfl ?_
  refine SW.iload dL_law_1369 rfl ?_
  refine SW.iconst (v := (1 : Int32)) dL_law_1371 (by decide) ?_
  refine SW.iadd dL_law_1372 ?_
  refine SW.sald hS (li_in hS.1 hi (j := 1) (by decide)) dL_law_1373 ?_
  refine SW.aload_n dL_law_1374 rfl ?_
  refine SW.iload dL_law_1375 rfl ?_
  refine SW.iconst (v := (2 : Int32)) dL_law_1377 (by decide) ?_
  refine SW.iadd dL_law_1378 ?_
  refine SW.sald hS (li_in hS.1 hi (j := 2) (by decide)) dL_law_1379 ?_
  refine SW.aload_n dL_law_1380 rfl ?_
  refine SW.iload dL_law_1381 rfl ?_
  refine SW.iconst (v := (3 : Int32)) dL_law_1383 (by decide) ?_
  refine SW.iadd dL_law_1384 ?_
  refine SW.sald hS (li_in hS.1 hi (j := 3) (by decide)) dL_law_1385 ?_
  refine SW.cvi3 kV_L_177 (by decide) aw_cl10 kp_120 (by decide) (hI.1.le (by decide)) rfl (Nat.le_of_ble_eq_true rfl) dL_law_1386 (p10_rest hI.1 (hI.v1 h1) (hI.h1 h1) (fun σ2 h2 => ?_))
  rw [hI.e3 h1] at h2 ⊢
  refine SW.icmp_eq 1833 dL_law_1389 (by decide) (fun _ => ?_) (fun h => absurd rfl h)
  exact kk n σ2 τ1 θ _ (Nat.le_refl _) (hI.q h1 h2 nw_rest)
set_option maxHeartbeats 1000000 in
theorem lc_1394 (hS : SCR G N xs) (hi : i + 7 ≤ N) (hI : LI n σ θ α) (kk : ∀ n' σ' τ' θ' α', n ≤ n' → LI n' σ' θ' α' → SW G 15 mL_law Q a b 1833 [some (.ref 1099), some (.ref 1), some (.ref 120), some (.ref 133), some (.int (nI i)), none, none] [] (n', σ', τ', θ')) : SW G 15 mL_law Q a b 1394 [some (.ref 1099), some (.ref 1), some (.ref 120), some (.ref 133), some (.int (nI i)), none, none] [] (n, σ, τ, θ) := by
  refine SW.aload_n dL_law_1394 rfl ?_
  refine SW.aload_n dL_law_1395 rfl ?_
  refine SW.iload dL_law_1396 rfl ?_
  refine SW.iconst (v := (1 : Int32)) dL_law_1398 (by decide) ?_
  refine SW.iadd dL_law_1399 ?_
  refine SW.sald hS (li_in hS.1 hi (j := 1) (by decide)) dL_law_1400 ?_
  refine SW.aload_n dL_law_1401 rfl ?_
  refine SW.iload dL_law_1402 rfl ?_
  refine SW.iconst (v := (2 : Int32)) dL_law_1404 (by decide) ?_
  refine SW.iadd dL_law_1405 ?_
  refine SW.sald hS (li_in hS.1 hi (j := 2) (by decide)) dL_law_1406 ?_
  refine SW.bool dL_law_1407 dL_law_1410 dL_law_1411 dL_law_1414 ?_
  refine SW.cvl2 kV_L_178 (by decide) aw_cl9 kp_1 (by decide) (hI.1.le (by decide)) rfl (Nat.le_of_ble_eq_true rfl) dL_law_1415 (p9_locked hI.1 hI.2.1.1 hI.2.2.2.v (fun σ1 τ1 h1 => ?_))
  refine SW.aload_n dL_law_1418 rfl ?_
  refine SW.aload_n dL_law_1419 rfl ?_
  refine SW.iload dL_law_1420 rfl ?_
  refine SW.iconst (v := (1 : Int32)) dL_law_1422 (by decide) ?_
  refine SW.iadd dL_law_1423 ?_
  refine SW.sald hS (li_in hS.1 hi (j := 1) (by decide)) dL_law_1424 ?_
  refine SW.aload_n dL_law_1425 rfl ?_
  refine SW.iload dL_law_1426 rfl ?_
  refine SW.iconst (v := (2 : Int32)) dL_law_1428 (by decide) ?_
  refine SW.iadd dL_law_1429 ?_
  refine SW.sald hS (li_in hS.1 hi (j := 2) (by decide)) dL_law_1430 ?_
  refine SW.bool dL_law_1431 dL_law_1434 dL_law_1435 dL_law_1438 ?_
  refine SW.cvl2 kV_L_181 (by decide) aw_cl10 kp_120 (by decide) (hI.1.le (by decide)) rfl (Nat.le_of_ble_eq_true rfl) dL_law_1439 (p10_locked hI.1 (hI.v1 h1) (hI.h1 h1) (fun σ2 h2 => ?_))
  refine SW.lcmp dL_law_1442 ?_
  rw [hI.e3 h1] at h2 ⊢
  refine SW.if_eq 1833 dL_law_1443 (by decide) (fun _ => ?_) (fun h => absurd (ps_lc _) h)
  exact kk n σ2 τ1 θ _ (Nat.le_refl _) (hI.q h1 h2 nw_locked)
set_option maxHeartbeats 1000000 in
theorem lc_1448 (hS : SCR G N xs) (hi : i + 7 ≤ N) (hI : LI n σ θ α) (kk : ∀ n' σ' τ' θ' α', n ≤ n' → LI n' σ' θ' α' → SW G 15 mL_law Q a b 1833 [some (.ref 1099), some (.ref 1), some (.ref 120), some (.ref 133), some (.int (nI i)), none, none] [] (n', σ', τ', θ')) : SW G 15 mL_law Q a b 1448 [some (.ref 1099), some (.ref 1), some (.ref 120), some (.ref 133), some (.int (nI i)), none, none] [] (n, σ, τ, θ) := by
  refine SW.aload_n dL_law_1448 rfl ?_
  refine SW.aload_n dL_law_1449 rfl ?_
  refine SW.iload dL_law_1450 rfl ?_
  refine SW.iconst (v := (1 : Int32)) dL_law_1452 (by decide) ?_
  refine SW.iadd dL_law_1453 ?_
  refine SW.sald hS (li_in hS.1 hi (j := 1) (by decide)) dL_law_1454 ?_
  refine SW.aload_n dL_law_1455 rfl ?_
  refine SW.iload dL_law_1456 rfl ?_
  refine SW.iconst (v := (2 : Int32)) dL_law_1458 (by decide) ?_
  refine SW.iadd dL_law_1459 ?_
  refine SW.sald hS (li_in hS.1 hi (j := 2) (by decide)) dL_law_1460 ?_
  refine SW.bool dL_law_1461 dL_law_1464 dL_law_1465 dL_law_1468 ?_
  refine SW.cvl2 kV_L_182 (by decide) aw_cl9 kp_1 (by decide) (hI.1.le (by decide)) rfl (Nat.le_of_ble_eq_true rfl) dL_law_1469 (p9_weeks hI.1 hI.2.1.1 hI.2.2.2.v (fun σ1 τ1 h1 => ?_))
  refine SW.aload_n dL_law_1472 rfl ?_
  refine SW.aload_n dL_law_1473 rfl ?_
  refine SW.iload dL_law_1474 rfl ?_
  refine SW.iconst (v := (1 : Int32)) dL_law_1476 (by decide) ?_
  refine SW.iadd dL_law_1477 ?_
  refine SW.sald hS (li_in hS.1 hi (j := 1) (by decide)) dL_law_1478 ?_
  refine SW.aload_n dL_law_1479 rfl ?_
  refine SW.iload dL_law_1480 rfl ?_
  refine SW.iconst (v := (2 : Int32)) dL_law_1482 (by decide) ?_
  refine SW.iadd dL_law_1483 ?_
  refine SW.sald hS (li_in hS.1 hi (j := 2) (by decide)) dL_law_1484 ?_
  refine SW.bool dL_law_1485 dL_law_1488 dL_law_1489 dL_law_1492 ?_
  refine SW.cvl2 kV_L_185 (by decide) aw_cl10 kp_120 (by decide) (hI.1.le (by decide)) rfl (Nat.le_of_ble_eq_true rfl) dL_law_1493 (p10_weeks hI.1 (hI.v1 h1) (hI.h1 h1) (fun σ2 h2 => ?_))
  refine SW.lcmp dL_law_1496 ?_
  rw [hI.e3 h1] at h2 ⊢
  refine SW.if_eq 1833 dL_law_1497 (by decide) (fun _ => ?_) (fun h => absurd (ps_lc _) h)
  exact kk n σ2 τ1 θ _ (Nat.le_refl _) (hI.q h1 h2 nw_weeks)
set_option maxHeartbeats 1000000 in
theorem lc_1502 (hS : SCR G N xs) (hi : i + 7 ≤ N) (hI : LI n σ θ α) (kk : ∀ n' σ' τ' θ' α', n ≤ n' → LI n' σ' θ' α' → SW G 15 mL_law Q a b 1833 [some (.ref 1099), some (.ref 1), some (.ref 120), some (.ref 133), some (.int (nI i)), none, none] [] (n', σ', τ', θ')) : SW G 15 mL_law Q a b 1502 [some (.ref 1099), some (.ref 1), some (.ref 120), some (.ref 133), some (.int (nI i)), none, none] [] (n, σ, τ, θ) := by
  refine SW.aload_n dL_law_1502 rfl ?_
  refine SW.aload_n dL_law_1503 rfl ?_
  refine SW.iload dL_law_1504 rfl ?_
  refine SW.iconst (v := (1 : Int32)) dL_law_1506 (by decide) ?_
  refine SW.iadd dL_law_1507 ?_
  refine SW.sald hS (li_in hS.1 hi (j := 1) (by decide)) dL_law_1508 ?_
  refine SW.aload_n dL_law_1509 rfl ?_
  refine SW.iload dL_law_1510 rfl ?_
  refine SW.iconst (v := (2 : Int32)) dL_law_1512 (by decide) ?_
  refine SW.iadd dL_law_1513 ?_
  refine SW.sald hS (li_in hS.1 hi (j := 2) (by decide)) dL_law_1514 ?_
  refine SW.aload_n dL_law_1515 rfl ?_
  refine SW.iload dL_law_1516 rfl ?_
  refine SW.iconst (v := (3 : Int32)) dL_law_1518 (by decide) ?_
  refine SW.iadd dL_law_1519 ?_
  refine SW.sald hS (li_in hS.1 hi (j := 3) (by decide)) dL_law_1520 ?_
  refine SW.cvi3 kV_L_186 (by decide) aw_cl9 kp_1 (by decide) (hI.1.le (by decide)) rfl (Nat.le_of_ble_eq_true rfl) dL_law_1521 (p9_moths hI.1 hI.2.1.1 hI.2.1.2.1 hI.2.2.2.v hI.2.2.2.m (fun σ1 τ1 h1 => ?_))
  refine SW.aload_n dL_law_1524 rfl ?_
  refine SW.aload_n dL_law_1525 rfl ?_
  refine SW.iload dL_law_1526 rfl ?_
  refine SW.iconst (v := (1 : Int32)) dL_law_1528 (by decide) ?_
  refine SW.iadd dL_law_1529 ?_
  refine SW.sald hS (li_in hS.1 hi (j := 1) (by decide)) dL_law_1530 ?_
  refine SW.aload_n dL_law_1531 rfl ?_
  refine SW.iload dL_law_1532 rfl ?_
  refine SW.iconst (v := (2 : Int32)) dL_law_1534 (by decide) ?_
  refine SW.iadd dL_law_1535 ?_
  refine SW.sald hS (li_in hS.1 hi (j := 2) (by decide)) dL_law_1536 ?_
  refine SW.aload_n dL_law_1537 rfl ?_
  refine SW.iload dL_law_1538 rfl ?_
  refine SW.iconst (v := (3 : Int32)) dL_law_1540 (by decide) ?_
  refine SW.iadd dL_law_1541 ?_
  refine SW.sald hS (li_in hS.1 hi (j := 3) (by decide)) dL_law_1542 ?_
  refine SW.cvi3 kV_L_189 (by decide) aw_cl10 kp_120 (by decide) (hI.1.le (by decide)) rfl (Nat.le_of_ble_eq_true rfl) dL_law_1543 (p10_moths hI.1 (hI.v1 h1) (hI.h1 h1) (hI.s1 h1) (fun σ2 h2 => ?_))
  rw [hI.e3 h1, hI.e5 h1] at h2 ⊢
  refine SW.icmp_eq 1833 dL_law_1546 (by decide) (fun _ => ?_) (fun h => absurd rfl h)
  exact kk n σ2 τ1 θ _ (Nat.le_refl _) (hI.q h1 h2 nw_moths)
set_option maxHeartbeats 1000000 in
theorem lc_1551 (hS : SCR G N xs) (hi : i + 7 ≤ N) (hI : LI n σ θ α) (kk : ∀ n' σ' τ' θ' α', n ≤ n' → LI n' σ' θ' α' → SW G 15 mL_law Q a b 1833 [some (.ref 1099), some (.ref 1), some (.ref 120), some (.ref 133), some (.int (nI i)), none, none] [] (n', σ', τ', θ')) : SW G 15 mL_law Q a b 1551 [some (.ref 1099), some (.ref 1), some (.ref 120), some (.ref 133), some (.int (nI i)), none, none] [] (n, σ, τ, θ) := by
  refine SW.aload_n dL_law_1551 rfl ?_
  refine SW.aload_n dL_law_1552 rfl ?_
  refine SW.iload dL_law_1553 rfl ?_
  refine SW.iconst (v := (1 : Int32)) dL_law_1555 (by decide) ?_
  refine SW.iadd dL_law_1556 ?_
  refine SW.sald hS (li_in hS.1 hi (j := 1) (by decide)) dL_law_1557 ?_
  refine SW.aload_n dL_law_1558 rfl ?_
  refine SW.iload dL_law_1559 rfl ?_
  refine SW.iconst (v := (2 : Int32)) dL_law_1561 (by decide) ?_
  refine SW.iadd dL_law_1562 ?_
  refine SW.sald hS (li_in hS.1 hi (j := 2) (by decide)) dL_law_1563 ?_
  refine SW.cvi2 kV_L_190 (by decide) aw_cl9 kp_1 (by decide) (hI.1.le (by decide)) rfl (Nat.le_of_ble_eq_true rfl) dL_law_1564 (p9_eaten hI.1 hI.2.1.1 hI.2.1.2.1 hI.2.2.2.v hI.2.2.2.m (fun σ1 τ1 h1 => ?_))
  refine SW.aload_n dL_law_1567 rfl ?_
  refine SW.aload_n dL_law_1568 rfl ?_
  refine SW.iload dL_law_1569 rfl ?_
  refine SW.iconst (v := (1 : Int32)) dL_law_1571 (by decide) ?_
  refine SW.iadd dL_law_1572 ?_
  refine SW.sald hS (li_in hS.1 hi (j := 1) (by decide)) dL_law_1573 ?_
  refine SW.aload_n dL_law_1574 rfl ?_
  refine SW.iload dL_law_1575 rfl ?_
  refine SW.iconst (v := (2 : Int32)) dL_law_1577 (by decide) ?_
  refine SW.iadd dL_law_1578 ?_
  refine SW.sald hS (li_in hS.1 hi (j := 2) (by decide)) dL_law_1579 ?_
  refine SW.cvi2 kV_L_193 (by decide) aw_cl10 kp_120 (by decide) (hI.1.le (by decide)) rfl (Nat.le_of_ble_eq_true rfl) dL_law_1580 (p10_eaten hI.1 (hI.v1 h1) (hI.h1 h1) (hI.s1 h1) (fun σ2 h2 => ?_))
  rw [hI.e3 h1, hI.e5 h1] at h2 ⊢
  refine SW.icmp_eq 1833 dL_law_1583 (by decide) (fun _ => ?_) (fun h => absurd rfl h)
  exact kk n σ2 τ1 θ _ (Nat.le_refl _) (hI.q h1 h2 nw_eaten)
set_option maxHeartbeats 1000000 in
theorem lc_1588 (hS : SCR G N xs) (hi : i + 7 ≤ N) (hI : LI n σ θ α) (kk : ∀ n' σ' τ' θ' α', n ≤ n' → LI n' σ' θ' α' → SW G 15 mL_law Q a b 1833 [some (.ref 1099), some (.ref 1), some (.ref 120), some (.ref 133), some (.int (nI i)), none, none] [] (n', σ', τ', θ')) : SW G 15 mL_law Q a b 1588 [some (.ref 1099), some (.ref 1), some (.ref 120), some (.ref 133), some (.int (nI i)), none, none] [] (n, σ, τ, θ) := by
  refine SW.aload_n dL_law_1588 rfl ?_
  refine SW.aload_n dL_law_1589 rfl ?_
  refine SW.iload dL_law_1590 rfl ?_
  refine SW.iconst (v := (1 : Int32)) dL_law_1592 (by decide) ?_
  refine SW.iadd dL_law_1593 ?_
  refine SW.sald hS (li_in hS.1 hi (j := 1) (by decide)) dL_law_1594 ?_
  refine SW.aload_n dL_law_1595 rfl ?_
  refine SW.iload dL_law_1596 rfl ?_
  refine SW.iconst (v := (2 : Int32)) dL_law_1598 (by decide) ?_
  refine SW.iadd dL_law_1599 ?_
  refine SW.sald hS (li_in hS.1 hi (j := 2) (by decide)) dL_law_1600 ?_
  refine SW.cvi2 kV_L_194 (by decide) aw_cl9 kp_1 (by decide) (hI.1.le (by decide)) rfl (Nat.le_of_ble_eq_true rfl) dL_law_1601 (p9_pay hI.1 hI.2.1 hI.2.2.2 (fun σ1 h1 c1 => ?_))
  refine SW.aload_n dL_law_1604 rfl ?_
  refine SW.aload_n dL_law_1605 rfl ?_
  refine SW.iload dL_law_1606 rfl ?_
  refine SW.iconst (v := (1 : Int32)) dL_law_1608 (by decide) ?_
  refine SW.iadd dL_law_1609 ?_
  refine SW.sald hS (li_in hS.1 hi (j := 1) (by decide)) dL_law_1610 ?_
  refine SW.aload_n dL_law_1611 rfl ?_
  refine SW.iload dL_law_1612 rfl ?_
  refine SW.iconst (v := (2 : Int32)) dL_law_1614 (by decide) ?_
  refine SW.iadd dL_law_1615 ?_
  refine SW.sald hS (li_in hS.1 hi (j := 2) (by decide)) dL_law_1616 ?_
  refine SW.cvi2 kV_L_197 (by decide) aw_cl10 kp_120 (by decide) (hI.1.le (by decide)) rfl (Nat.le_of_ble_eq_true rfl) dL_law_1617 (p10_pay hI.1 (hI.2.2.1.cc h1) hI.2.2.2 (fun σ2 h2 r2 a2 => ?_))
  refine SW.icmp_eq 1833 dL_law_1620 (by decide) (fun _ => ?_) (fun h => absurd (by first | rfl | decide) h)
  exact kk n σ2 τ θ _ (Nat.le_refl _) (hI.a hI.1 c1 h2 r2 a2)
set_option maxHeartbeats 1000000 in
theorem lc_1625 (hS : SCR G N xs) (hi : i + 7 ≤ N) (hI : LI n σ θ α) (kk : ∀ n' σ' τ' θ' α', n ≤ n' → LI n' σ' θ' α' → SW G 15 mL_law Q a b 1833 [some (.ref 1099), some (.ref 1), some (.ref 120), some (.ref 133), some (.int (nI i)), none, none] [] (n', σ', τ', θ')) : SW G 15 mL_law Q a b 1625 [some (.ref 1099), some (.ref 1), some (.ref 120), some (.ref 133), some (.int (nI i)), none, none] [] (n, σ, τ, θ) := by
  refine SW.aload_n dL_law_1625 rfl ?_
  refine SW.aload_n dL_law_1626 rfl ?_
  refine SW.iload dL_law_1627 rfl ?_
  refine SW.iconst (v := (1 : Int32)) dL_law_1629 (by decide) ?_
  refine SW.iadd dL_law_1630 ?_
  refine SW.sald hS (li_in hS.1 hi (j := 1) (by decide)) dL_law_1631 ?_
  refine SW.cvi1 kV_L_198 (by decide) aw_cl9 kp_1 (by decide) (hI.1.le (by decide)) rfl (Nat.le_of_ble_eq_true rfl) dL_law_1632 (p9_letOff hI.1 hI.2.1 hI.2.2.2 (fun σ1 h1 c1 => ?_))
  refine SW.aload_n dL_law_1635 rfl ?_
  refine SW.aload_n dL_law_1636 rfl ?_
  refine SW.iload dL_law_1637 rfl ?_
  refine SW.iconst (v := (1 : Int32)) dL_law_1639 (by decide) ?_
  refine SW.iadd dL_law_1640 ?_
  refine SW.sald hS (li_in hS.1 hi (j := 1) (by decide)) dL_law_1641 ?_
  refine SW.cvi1 kV_L_201 (by decide) aw_cl10 kp_120 (by decide) (hI.1.le (by decide)) rfl (Nat.le_of_ble_eq_true rfl) dL_law_1642 (p10_letOff hI.1 (hI.2.2.1.cc h1) hI.2.2.2 (fun σ2 h2 r2 a2 => ?_))
  refine SW.icmp_eq 1833 dL_law_1645 (by decide) (fun _ => ?_) (fun h => absurd (by first | rfl | decide) h)
  exact kk n σ2 τ θ _ (Nat.le_refl _) (hI.a hI.1 c1 h2 r2 a2)
set_option maxHeartbeats 1000000 in
theorem lc_1650 (hS : SCR G N xs) (hi : i + 7 ≤ N) (hI : LI n σ θ α) (kk : ∀ n' σ' τ' θ' α', n ≤ n' → LI n' σ' θ' α' → SW G 15 mL_law Q a b 1833 [some (.ref 1099), some (.ref 1), some (.ref 120), some (.ref 133), some (.int (nI i)), none, none] [] (n', σ', τ', θ')) : SW G 15 mL_law Q a b 1650 [some (.ref 1099), some (.ref 1), some (.ref 120), some (.ref 133), some (.int (nI i)), none, none] [] (n, σ, τ, θ) := by
  refine SW.aload_n dL_law_1650 rfl ?_
  refine SW.aload_n dL_law_1651 rfl ?_
  refine SW.iload dL_law_1652 rfl ?_
  refine SW.iconst (v := (1 : Int32)) dL_law_1654 (by decide) ?_
  refine SW.iadd dL_law_1655 ?_
  refine SW.sald hS (li_in hS.1 hi (j := 1) (by decide)) dL_law_1656 ?_
  refine SW.cvi1 kV_L_202 (by decide) aw_cl9 kp_1 (by decide) (hI.1.le (by decide)) rfl (Nat.le_of_ble_eq_true rfl) dL_law_1657 (p9_shed hI.1 hI.2.1 hI.2.2.2 (fun σ1 h1 c1 => ?_))
  refine SW.aload_n dL_law_1660 rfl ?_
  refine SW.aload_n dL_law_1661 rfl ?_
  refine SW.iload dL_law_1662 rfl ?_
  refine SW.iconst (v := (1 : Int32)) dL_law_1664 (by decide) ?_
  refine SW.iadd dL_law_1665 ?_
  refine SW.sald hS (li_in hS.1 hi (j := 1) (by decide)) dL_law_1666 ?_
  refine SW.cvi1 kV_L_205 (by decide) aw_cl10 kp_120 (by decide) (hI.1.le (by decide)) rfl (Nat.le_of_ble_eq_true rfl) dL_law_1667 (p10_shed hI.1 (hI.2.2.1.cc h1) hI.2.2.2 (fun σ2 h2 r2 a2 => ?_))
  refine SW.icmp_eq 1833 dL_law_1670 (by decide) (fun _ => ?_) (fun h => absurd (by first | rfl | decide) h)
  exact kk n σ2 τ θ _ (Nat.le_refl _) (hI.a hI.1 c1 h2 r2 a2)
set_option maxHeartbeats 1000000 in
theorem lc_1675 (hS : SCR G N xs) (hi : i + 7 ≤ N) (hI : LI n σ θ α) (kk : ∀ n' σ' τ' θ' α', n ≤ n' → LI n' σ' θ' α' → SW G 15 mL_law Q a b 1833 [some (.ref 1099), some (.ref 1), some (.ref 120), some (.ref 133), some (.int (nI i)), none, none] [] (n', σ', τ', θ')) : SW G 15 mL_law Q a b 1675 [some (.ref 1099), some (.ref 1), some (.ref 120), some (.ref 133), some (.int (nI i)), none, none] [] (n, σ, τ, θ) := by
  refine SW.aload_n dL_law_1675 rfl ?_
  refine SW.cvi0 kV_L_206 (by decide) aw_cl9 kp_1 (by decide) (hI.1.le (by decide)) rfl (Nat.le_of_ble_eq_true rfl) dL_law_1676 (p9_spring hI.1 hI.2.1 hI.2.2.2 (fun σ1 h1 c1 => ?_))
  refine SW.aload_n dL_law_1679 rfl ?_
  refine SW.cvi0 kV_L_209 (by decide) aw_cl10 kp_120 (by decide) (hI.1.le (by decide)) rfl (Nat.le_of_ble_eq_true rfl) dL_law_1680 (p10_spring hI.1 (hI.2.2.1.cc h1) hI.2.2.2 (fun σ2 h2 r2 a2 => ?_))
  refine SW.icmp_eq 1833 dL_law_1683 (by decide) (fun _ => ?_) (fun h => absurd (by first | rfl | decide) h)
  exact kk n σ2 τ θ _ (Nat.le_refl _) (hI.a hI.1 c1 h2 r2 a2)
set_option maxHeartbeats 1000000 in
theorem lc_1688 (hS : SCR G N xs) (hi : i + 7 ≤ N) (hI : LI n σ θ α) (kk : ∀ n' σ' τ' θ' α', n ≤ n' → LI n' σ' θ' α' → SW G 15 mL_law Q a b 1833 [some (.ref 1099), some (.ref 1), some (.ref 120), some (.ref 133), some (.int (nI i)), none, none] [] (n', σ', τ', θ')) : SW G 15 mL_law Q a b 1688 [some (.ref 1099), some (.ref 1), some (.ref 120), some (.ref 133), some (.int (nI i)), none, none] [] (n, σ, τ, θ) := by
  refine SW.aload_n dL_law_1688 rfl ?_
  refine SW.cvi0 kV_L_210 (by decide) aw_cl9 kp_1 (by decide) (hI.1.le (by decide)) rfl (Nat.le_of_ble_eq_true rfl) dL_law_1689 (p9_undo hI.1 hI.2.1 hI.2.2.2 (fun σ1 h1 c1 => ?_))
  refine SW.aload_n dL_law_1692 rfl ?_
  refine SW.cvi0 kV_L_214 (by decide) aw_cl10 kp_120 (by decide) (hI.1.le (by decide)) rfl (Nat.le_of_ble_eq_true rfl) dL_law_1693 (p10_undo hI.1 (hI.2.2.1.cc h1) hI.2.2.2 (fun σ2 h2 r2 a2 => ?_))
  refine SW.icmp_eq 1833 dL_law_1696 (by decide) (fun _ => ?_) (fun h => absurd (by first | rfl | decide) h)
  exact kk n σ2 τ θ _ (Nat.le_refl _) (hI.a hI.1 c1 h2 r2 a2)
set_option maxHeartbeats 1000000 in
theorem lc_1701 (hS : SCR G N xs) (hi : i + 7 ≤ N) (hI : LI n σ θ α) (kk : ∀ n' σ' τ' θ' α', n ≤ n' → LI n' σ' θ' α' → SW G 15 mL_law Q a b 1833 [some (.ref 1099), some (.ref 1), some (.ref 120), some (.ref 133), some (.int (nI i)), none, none] [] (n', σ', τ', θ')) : SW G 15 mL_law Q a b 1701 [some (.ref 1099), some (.ref 1), some (.ref 120), some (.ref 133), some (.int (nI i)), none, none] [] (n, σ, τ, θ) := by
  refine SW.aload_n dL_law_1701 rfl ?_
  refine SW.cvi0 kV_L_215 (by decide) aw_cl9 kp_1 (by decide) (hI.1.le (by decide)) rfl (Nat.le_of_ble_eq_true rfl) dL_law_1702 (p9_image hI.1 hI.2.1 hI.2.2.2 (fun σ1 h1 c1 => ?_))
  refine SW.aload_n dL_law_1705 rfl ?_
  refine SW.cvi0 kV_L_218 (by decide) aw_cl10 kp_120 (by decide) (hI.1.le (by decide)) rfl (Nat.le_of_ble_eq_true rfl) dL_law_1706 (p10_image hI.1 (hI.2.2.1.cc h1) hI.2.2.2 (fun σ2 h2 r2 a2 => ?_))
  refine SW.icmp_eq 1833 dL_law_1709 (by decide) (fun _ => ?_) (fun h => absurd (by first | rfl | decide) h)
  exact kk n σ2 τ θ _ (Nat.le_refl _) (hI.a hI.1 c1 h2 r2 a2)
set_option maxHeartbeats 1000000 in
theorem lc_1714 (hS : SCR G N xs) (hi : i + 7 ≤ N) (hI : LI n σ θ α) (kk : ∀ n' σ' τ' θ' α', n ≤ n' → LI n' σ' θ' α' → SW G 15 mL_law Q a b 1833 [some (.ref 1099), some (.ref 1), some (.ref 120), some (.ref 133), some (.int (nI i)), none, none] [] (n', σ', τ', θ')) : SW G 15 mL_law Q a b 1714 [some (.ref 1099), some (.ref 1), some (.ref 120), some (.ref 133), some (.int (nI i)), none, none] [] (n, σ, τ, θ) := by
  refine SW.aload_n dL_law_1714 rfl ?_
  refine SW.aload_n dL_law_1715 rfl ?_
  refine SW.iload dL_law_1716 rfl ?_
  refine SW.iconst (v := (1 : Int32)) dL_law_1718 (by decide) ?_
  refine SW.iadd dL_law_1719 ?_
  refine SW.sald hS (li_in hS.1 hi (j := 1) (by decide)) dL_law_1720 ?_
  refine SW.cvi1 kV_L_219 (by decide) aw_cl9 kp_1 (by decide) (hI.1.le (by decide)) rfl (Nat.le_of_ble_eq_true rfl) dL_law_1721 (p9_back hI.1 hI.2.1 hI.2.2.2 (fun σ1 h1 c1 => ?_))
  refine SW.aload_n dL_law_1724 rfl ?_
  refine SW.aload_n dL_law_1725 rfl ?_
  refine SW.iload dL_law_1726 rfl ?_
  refine SW.iconst (v := (1 : Int32)) dL_law_1728 (by decide) ?_
  refine SW.iadd dL_law_1729 ?_
  refine SW.sald hS (li_in hS.1 hi (j := 1) (by decide)) dL_law_1730 ?_
  refine SW.cvi1 kV_L_223 (by decide) aw_cl10 kp_120 (by decide) (hI.1.le (by decide)) rfl (Nat.le_of_ble_eq_true rfl) dL_law_1731 (p10_back hI.1 (hI.2.2.1.cc h1) hI.2.2.2 (fun σ2 h2 r2 a2 => ?_))
  refine SW.icmp_eq 1833 dL_law_1734 (by decide) (fun _ => ?_) (fun h => absurd (by first | rfl | decide) h)
  exact kk n σ2 τ θ _ (Nat.le_refl _) (hI.a hI.1 c1 h2 r2 a2)
set_option maxHeartbeats 1000000 in
theorem lc_1795 (hS : SCR G N xs) (hi : i + 7 ≤ N) (hI : LI n σ θ α) (kk : ∀ n' σ' τ' θ' α', n ≤ n' → LI n' σ' θ' α' → SW G 15 mL_law Q a b 1833 [some (.ref 1099), some (.ref 1), some (.ref 120), some (.ref 133), some (.int (nI i)), none, none] [] (n', σ', τ', θ')) : SW G 15 mL_law Q a b 1795 [some (.ref 1099), some (.ref 1), some (.ref 120), some (.ref 133), some (.int (nI i)), none, none] [] (n, σ, τ, θ) := by
  refine SW.aload_n dL_law_1795 rfl ?_
  refine SW.aload_n dL_law_1796 rfl ?_
  refine SW.iload dL_law_1797 rfl ?_
  refine SW.iconst (v := (1 : Int32)) dL_law_1799 (by decide) ?_
  refine SW.iadd dL_law_1800 ?_
  refine SW.sald hS (li_in hS.1 hi (j := 1) (by decide)) dL_law_1801 ?_
  refine SW.cvi1 kV_L_233 (by decide) aw_cl9 kp_1 (by decide) (hI.1.le (by decide)) rfl (Nat.le_of_ble_eq_true rfl) dL_law_1802 (p9_size hI.1 hI.2.1.1 hI.2.1.2.1 hI.2.2.2.v ?_)
  refine SW.aload_n dL_law_1805 rfl ?_
  refine SW.aload_n dL_law_1806 rfl ?_
  refine SW.iload dL_law_1807 rfl ?_
  refine SW.iconst (v := (1 : Int32)) dL_law_1809 (by decide) ?_
  refine SW.iadd dL_law_1810 ?_
  refine SW.sald hS (li_in hS.1 hi (j := 1) (by decide)) dL_law_1811 ?_
  refine SW.cvi1 kV_L_236 (by decide) aw_cl10 kp_120 (by decide) (hI.1.le (by decide)) rfl (Nat.le_of_ble_eq_true rfl) dL_law_1812 (p10_size hI.1 (hI.2.2.1.vr hI.2.2.2) (hI.2.2.1.hr hI.2.2.2) (li_size hI) (fun σ2 h2 => ?_))
  refine SW.icmp_eq 1833 dL_law_1815 (by decide) (fun _ => ?_) (fun h => absurd ?_ h)
  · exact kk n σ2 τ θ α (Nat.le_refl _) (hI.s h2)
  · exact li_sizeq hI
set_option maxHeartbeats 1000000 in
theorem lc_1820 (hS : SCR G N xs) (hi : i + 7 ≤ N) (hI : LI n σ θ α) (kk : ∀ n' σ' τ' θ' α', n ≤ n' → LI n' σ' θ' α' → SW G 15 mL_law Q a b 1833 [some (.ref 1099), some (.ref 1), some (.ref 120), some (.ref 133), some (.int (nI i)), none, none] [] (n', σ', τ', θ')) : SW G 15 mL_law Q a b 1820 [some (.ref 1099), some (.ref 1), some (.ref 120), some (.ref 133), some (.int (nI i)), none, none] [] (n, σ, τ, θ) := by
  refine SW.aload_n dL_law_1820 rfl ?_
  refine SW.cvi0 kV_L_237 (by decide) aw_cl9 kp_1 (by decide) (hI.1.le (by decide)) rfl (Nat.le_of_ble_eq_true rfl) dL_law_1821 (p9_trouble hI.1 ?_)
  refine SW.aload_n dL_law_1824 rfl ?_
  refine SW.cvi0 kV_L_240 (by decide) aw_cl10 kp_120 (by decide) (hI.1.le (by decide)) rfl (Nat.le_of_ble_eq_true rfl) dL_law_1825 (p10_trouble hI.1 (fun σ2 h2 => ?_))
  refine SW.icmp_eq 1833 dL_law_1828 (by decide) (fun _ => ?_) (fun h => absurd ?_ h)
  · exact kk n σ2 τ θ α (Nat.le_refl _) (hI.s h2)
  · exact li_trouble hI
end Lw
