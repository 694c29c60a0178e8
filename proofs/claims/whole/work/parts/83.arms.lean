/-! The arms of the law. -/
section ARMS
variable {l : Launch} {D : va_G} {dA : Nat → ClassId} {ad : Nat → Nat} {cells slots : Nat} {μ : zI} {ν : zJ} {b N k : Nat} {xs : Nat → Int32}
def shW : List zSE := roS ++ (moS 36 ++ [.inr (1, 1)])
theorem ro_W : zRo shW := fun j e he => by
  have hj := (List.getElem?_eq_some_iff.mp he).1
  rw [shW, List.getElem?_append_left hj]; exact he
theorem mo_W : zMo shW 36 := fun j e he => by
  have hj := (List.getElem?_eq_some_iff.mp he).1
  have h36 : roS.length = 36 := rfl
  rw [shW, List.getElem?_append_right (by omega), h36, Nat.add_sub_cancel_left, List.getElem?_append_left hj]; exact he
theorem out_W : shW[48]? = some (.inr (1, 1)) := rfl
abbrev ZW (l : Launch) (D : va_G) (dA : Nat → ClassId) (ad : Nat → Nat) (b N : Nat) (xs : Nat → Int32) (cells slots pc : Nat) (L : List (Nat × Value)) (S : List Value) (μ : zI) (ν : zJ) : Prop := Z l D dA ad shW m_law room_1 (XW ad b N xs) QW 601024 7293034 cells slots [] pc L S μ ν
theorem no_f {r : Nat} : ¬ (fun _ : Nat => False) r := fun h => h
theorem lcmp_0 {r : Int64} : lg_cmp r r = 0 := by unfold lg_cmp; simp
set_option maxRecDepth 20000 in
theorem arm_feed (h : R1 μ ν) (hk : 6 * k + 6 ≤ N) (hN : N ≤ 3072) (hc : cells + 1 ≤ 601024) (hs : slots + 19 ≤ 7293034) (kk : ∀ μ' ν', R1 μ' ν' → ZW l D dA ad b N xs (cells + 1) (slots + 19) 1525 (lw ad b k) [] μ' ν') : ZW l D dA ad b N xs cells slots 236 (lw ad b k) [] μ ν := by
  obtain ⟨r, μ1, ν1, μ2, ν2, e1, e2, h2⟩ := one (sim_feed (q := 36) (xs (6 * k + 1)) (xs (6 * k + 2)) (xs (6 * k + 3)) (xs (6 * k + 4)) (xs (6 * k + 5))) h (fun out e r hr => ⟨(fr_S_feed e).1 r (by first | exact fun h => h | (dsimp only; omega)), (fr_S_feed e).2 r (by first | exact fun h => h | (dsimp only; omega))⟩) (fun μ ν out e r hr => ⟨(fr_M_feed e).1 r (by first | exact fun h => h | (dsimp only; omega)), (fr_M_feed e).2 r (by first | exact fun h => h | (dsimp only; omega))⟩)
  refine z_aload_n dW_236 3 rfl rfl ?_
  refine la_arg (j := 1) dW_237 dW_238 dW_240 dW_241 dW_242 rfl (by omega) hN ?_
  refine la_arg (j := 2) dW_243 dW_244 dW_246 dW_247 dW_248 rfl (by omega) hN ?_
  refine la_arg (j := 3) dW_249 dW_250 dW_252 dW_253 dW_254 rfl (by omega) hN ?_
  refine la_arg (j := 4) dW_255 dW_256 dW_258 dW_259 dW_260 rfl (by omega) hN ?_
  refine la_arg (j := 5) dW_261 dW_262 dW_264 dW_265 dW_266 rfl (by omega) hN ?_
  refine z_callV dW_267 (c_S_feed ro_W e1) mv_S_feed (zt2 204 (by decide +kernel) rfl) (fun _ _ h => h.1.1) (ro_W 0 _ rfl) rfl rfl ⟨(Nat.le_of_ble_eq_true rfl), (Nat.le_of_ble_eq_true rfl)⟩ ⟨by show cells + 0 ≤ 601024; omega, by show slots + 0 ≤ 7293034; omega⟩ rfl (Nat.le_of_ble_eq_true rfl) (fun r9 μ9 ν9 hq => ?_)
  obtain ⟨rfl, rfl, rfl⟩ := hq
  refine z_aload_n dW_270 2 rfl rfl ?_
  refine la_arg (j := 1) dW_271 dW_272 dW_274 dW_275 dW_276 rfl (by omega) hN ?_
  refine la_arg (j := 2) dW_277 dW_278 dW_280 dW_281 dW_282 rfl (by omega) hN ?_
  refine la_arg (j := 3) dW_283 dW_284 dW_286 dW_287 dW_288 rfl (by omega) hN ?_
  refine la_arg (j := 4) dW_289 dW_290 dW_292 dW_293 dW_294 rfl (by omega) hN ?_
  refine la_arg (j := 5) dW_295 dW_296 dW_298 dW_299 dW_300 rfl (by omega) hN ?_
  refine z_callV (b := 36) dW_301 (c_M_feed mo_W e2) mv_M_feed (zt6 84 (by decide +kernel) rfl) (fun _ _ h => h.1.1) (mo_W 0 _ rfl) rfl rfl ⟨(Nat.le_of_ble_eq_true rfl), (Nat.le_of_ble_eq_true rfl)⟩ ⟨by show cells + 0 + 0 ≤ 601024; omega, by show slots + 0 + 0 ≤ 7293034; omega⟩ rfl (Nat.le_of_ble_eq_true rfl) (fun r9 μ9 ν9 hq => ?_)
  obtain ⟨rfl, rfl, rfl⟩ := hq
  refine z_icmp_eq (tgt := 1525) dW_304 rfl (fun _ => ?_) (fun hne => absurd rfl hne)
  exact z_wide (by omega) (by omega) (kk _ _ h2)
set_option maxRecDepth 20000 in
theorem arm_text (h : R1 μ ν) (hk : 6 * k + 6 ≤ N) (hN : N ≤ 3072) (hc : cells + 1 ≤ 601024) (hs : slots + 19 ≤ 7293034) (kk : ∀ μ' ν', R1 μ' ν' → ZW l D dA ad b N xs (cells + 1) (slots + 19) 1525 (lw ad b k) [] μ' ν') : ZW l D dA ad b N xs cells slots 309 (lw ad b k) [] μ ν := by
  obtain ⟨r, μ1, ν1, μ2, ν2, e1, e2, h2⟩ := one (sim_text (q := 36) (xs (6 * k + 1))) h (fun out e r hr => ⟨(fr_S_text e).1 r (by first | exact fun h => h | (dsimp only; omega)), (fr_S_text e).2 r (by first | exact fun h => h | (dsimp only; omega))⟩) (fun μ ν out e r hr => ⟨(fr_M_text e).1 r (by first | exact fun h => h | (dsimp only; omega)), (fr_M_text e).2 r (by first | exact fun h => h | (dsimp only; omega))⟩)
  refine z_aload_n dW_309 3 rfl rfl ?_
  refine la_arg (j := 1) dW_310 dW_311 dW_313 dW_314 dW_315 rfl (by omega) hN ?_
  refine z_callV dW_316 (c_S_text ro_W e1) mv_S_text (zt2 216 (by decide +kernel) rfl) (fun _ _ h => h.1.1) (ro_W 0 _ rfl) rfl rfl ⟨(Nat.le_of_ble_eq_true rfl), (Nat.le_of_ble_eq_true rfl)⟩ ⟨by show cells + 0 ≤ 601024; omega, by show slots + 0 ≤ 7293034; omega⟩ rfl (Nat.le_of_ble_eq_true rfl) (fun r9 μ9 ν9 hq => ?_)
  obtain ⟨rfl, rfl, rfl⟩ := hq
  refine z_aload_n dW_319 2 rfl rfl ?_
  refine la_arg (j := 1) dW_320 dW_321 dW_323 dW_324 dW_325 rfl (by omega) hN ?_
  refine z_callV (b := 36) dW_326 (c_M_text mo_W e2) mv_M_text (zt6 88 (by decide +kernel) rfl) (fun _ _ h => h.1.1) (mo_W 0 _ rfl) rfl rfl ⟨(Nat.le_of_ble_eq_true rfl), (Nat.le_of_ble_eq_true rfl)⟩ ⟨by show cells + 0 + 1 ≤ 601024; omega, by show slots + 0 + 19 ≤ 7293034; omega⟩ rfl (Nat.le_of_ble_eq_true rfl) (fun r9 μ9 ν9 hq => ?_)
  obtain ⟨rfl, rfl, rfl⟩ := hq
  refine z_icmp_eq (tgt := 1525) dW_329 rfl (fun _ => ?_) (fun hne => absurd rfl hne)
  exact z_wide (by omega) (by omega) (kk _ _ h2)
set_option maxRecDepth 20000 in
theorem arm_fault (h : R1 μ ν) (hk : 6 * k + 6 ≤ N) (hN : N ≤ 3072) (hc : cells + 1 ≤ 601024) (hs : slots + 19 ≤ 7293034) (kk : ∀ μ' ν', R1 μ' ν' → ZW l D dA ad b N xs (cells + 1) (slots + 19) 1525 (lw ad b k) [] μ' ν') : ZW l D dA ad b N xs cells slots 334 (lw ad b k) [] μ ν := by
  obtain ⟨r, μ1, ν1, μ2, ν2, e1, e2, h2⟩ := one (sim_fault (q := 36) (xs (6 * k + 1))) h (fun out e r hr => ⟨(fr_S_fault e).1 r (by first | exact fun h => h | (dsimp only; omega)), (fr_S_fault e).2 r (by first | exact fun h => h | (dsimp only; omega))⟩) (fun μ ν out e r hr => ⟨(fr_M_fault e).1 r (by first | exact fun h => h | (dsimp only; omega)), (fr_M_fault e).2 r (by first | exact fun h => h | (dsimp only; omega))⟩)
  refine z_aload_n dW_334 3 rfl rfl ?_
  refine la_arg (j := 1) dW_335 dW_336 dW_338 dW_339 dW_340 rfl (by omega) hN ?_
  refine z_callV dW_341 (c_S_fault ro_W e1) mv_S_fault (zt3 156 (by decide +kernel) rfl) (fun _ _ h => h.1.1) (ro_W 0 _ rfl) rfl rfl ⟨(Nat.le_of_ble_eq_true rfl), (Nat.le_of_ble_eq_true rfl)⟩ ⟨by show cells + 0 ≤ 601024; omega, by show slots + 0 ≤ 7293034; omega⟩ rfl (Nat.le_of_ble_eq_true rfl) (fun r9 μ9 ν9 hq => ?_)
  obtain ⟨rfl, rfl, rfl⟩ := hq
  refine z_aload_n dW_344 2 rfl rfl ?_
  refine la_arg (j := 1) dW_345 dW_346 dW_348 dW_349 dW_350 rfl (by omega) hN ?_
  refine z_callV (b := 36) dW_351 (c_M_fault mo_W e2) mv_M_fault (zt6 158 (by decide +kernel) rfl) (fun _ _ h => h.1.1) (mo_W 0 _ rfl) rfl rfl ⟨(Nat.le_of_ble_eq_true rfl), (Nat.le_of_ble_eq_true rfl)⟩ ⟨by show cells + 0 + 0 ≤ 601024; omega, by show slots + 0 + 0 ≤ 7293034; omega⟩ rfl (Nat.le_of_ble_eq_true rfl) (fun r9 μ9 ν9 hq => ?_)
  obtain ⟨rfl, rfl, rfl⟩ := hq
  refine z_icmp_eq (tgt := 1525) dW_354 rfl (fun _ => ?_) (fun hne => absurd rfl hne)
  exact z_wide (by omega) (by omega) (kk _ _ h2)
set_option maxRecDepth 20000 in
theorem arm_ticks (h : R1 μ ν) (hk : 6 * k + 6 ≤ N) (hN : N ≤ 3072) (hc : cells + 1 ≤ 601024) (hs : slots + 19 ≤ 7293034) (kk : ∀ μ' ν', R1 μ' ν' → ZW l D dA ad b N xs (cells + 1) (slots + 19) 1525 (lw ad b k) [] μ' ν') : ZW l D dA ad b N xs cells slots 359 (lw ad b k) [] μ ν := by
  obtain ⟨r, μ1, ν1, μ2, ν2, e1, e2, h2⟩ := one (sim_ticks (q := 36) (xs (6 * k + 1))) h (fun out e r hr => ⟨(fr_S_ticks e).1 r (by first | exact fun h => h | (dsimp only; omega)), (fr_S_ticks e).2 r (by first | exact fun h => h | (dsimp only; omega))⟩) (fun μ ν out e r hr => ⟨(fr_M_ticks e).1 r (by first | exact fun h => h | (dsimp only; omega)), (fr_M_ticks e).2 r (by first | exact fun h => h | (dsimp only; omega))⟩)
  refine z_aload_n dW_359 3 rfl rfl ?_
  refine la_arg (j := 1) dW_360 dW_361 dW_363 dW_364 dW_365 rfl (by omega) hN ?_
  refine z_callV dW_366 (c_S_ticks ro_W e1) mv_S_ticks (zt3 160 (by decide +kernel) rfl) (fun _ _ h => h.1.1) (ro_W 0 _ rfl) rfl rfl ⟨(Nat.le_of_ble_eq_true rfl), (Nat.le_of_ble_eq_true rfl)⟩ ⟨by show cells + 0 ≤ 601024; omega, by show slots + 0 ≤ 7293034; omega⟩ rfl (Nat.le_of_ble_eq_true rfl) (fun r9 μ9 ν9 hq => ?_)
  obtain ⟨rfl, rfl, rfl⟩ := hq
  refine z_aload_n dW_369 2 rfl rfl ?_
  refine la_arg (j := 1) dW_370 dW_371 dW_373 dW_374 dW_375 rfl (by omega) hN ?_
  refine z_callV (b := 36) dW_376 (c_M_ticks mo_W e2) mv_M_ticks (zt6 162 (by decide +kernel) rfl) (fun _ _ h => h.1.1) (mo_W 0 _ rfl) rfl rfl ⟨(Nat.le_of_ble_eq_true rfl), (Nat.le_of_ble_eq_true rfl)⟩ ⟨by show cells + 0 + 0 ≤ 601024; omega, by show slots + 0 + 0 ≤ 7293034; omega⟩ rfl (Nat.le_of_ble_eq_true rfl) (fun r9 μ9 ν9 hq => ?_)
  obtain ⟨rfl, rfl, rfl⟩ := hq
  refine z_icmp_eq (tgt := 1525) dW_379 rfl (fun _ => ?_) (fun hne => absurd rfl hne)
  exact z_wide (by omega) (by omega) (kk _ _ h2)
set_option maxRecDepth 20000 in
theorem arm_light (h : R1 μ ν) (hk : 6 * k + 6 ≤ N) (hN : N ≤ 3072) (hc : cells + 1 ≤ 601024) (hs : slots + 19 ≤ 7293034) (kk : ∀ μ' ν', R1 μ' ν' → ZW l D dA ad b N xs (cells + 1) (slots + 19) 1525 (lw ad b k) [] μ' ν') : ZW l D dA ad b N xs cells slots 384 (lw ad b k) [] μ ν := by
  obtain ⟨r, μ1, ν1, μ2, ν2, e1, e2, h2⟩ := one (sim_light (q := 36) (xs (6 * k + 1)) (xs (6 * k + 2))) h (fun out e r hr => ⟨(fr_S_light e).1 r (by first | exact fun h => h | (dsimp only; omega)), (fr_S_light e).2 r (by first | exact fun h => h | (dsimp only; omega))⟩) (fun μ ν out e r hr => ⟨(fr_M_light e).1 r (by first | exact fun h => h | (dsimp only; omega)), (fr_M_light e).2 r (by first | exact fun h => h | (dsimp only; omega))⟩)
  refine z_aload_n dW_384 3 rfl rfl ?_
  refine la_arg (j := 1) dW_385 dW_386 dW_388 dW_389 dW_390 rfl (by omega) hN ?_
  refine la_arg (j := 2) dW_391 dW_392 dW_394 dW_395 dW_396 rfl (by omega) hN ?_
  refine z_callV dW_397 (c_S_light ro_W e1) mv_S_light (zt4 64 (by decide +kernel) rfl) (fun _ _ h => h.1.1) (ro_W 0 _ rfl) rfl rfl ⟨(Nat.le_of_ble_eq_true rfl), (Nat.le_of_ble_eq_true rfl)⟩ ⟨by show cells + 0 ≤ 601024; omega, by show slots + 0 ≤ 7293034; omega⟩ rfl (Nat.le_of_ble_eq_true rfl) (fun r9 μ9 ν9 hq => ?_)
  obtain ⟨rfl, rfl, rfl⟩ := hq
  refine z_aload_n dW_400 2 rfl rfl ?_
  refine la_arg (j := 1) dW_401 dW_402 dW_404 dW_405 dW_406 rfl (by omega) hN ?_
  refine la_arg (j := 2) dW_407 dW_408 dW_410 dW_411 dW_412 rfl (by omega) hN ?_
  refine z_callV (b := 36) dW_413 (c_M_light mo_W e2) mv_M_light (zt7 19 (by decide +kernel) rfl) (fun _ _ h => h.1.1) (mo_W 0 _ rfl) rfl rfl ⟨(Nat.le_of_ble_eq_true rfl), (Nat.le_of_ble_eq_true rfl)⟩ ⟨by show cells + 0 + 0 ≤ 601024; omega, by show slots + 0 + 0 ≤ 7293034; omega⟩ rfl (Nat.le_of_ble_eq_true rfl) (fun r9 μ9 ν9 hq => ?_)
  obtain ⟨rfl, rfl, rfl⟩ := hq
  refine z_icmp_eq (tgt := 1525) dW_416 rfl (fun _ => ?_) (fun hne => absurd rfl hne)
  exact z_wide (by omega) (by omega) (kk _ _ h2)
set_option maxRecDepth 20000 in
theorem arm_grid (h : R1 μ ν) (hk : 6 * k + 6 ≤ N) (hN : N ≤ 3072) (hc : cells + 1 ≤ 601024) (hs : slots + 19 ≤ 7293034) (kk : ∀ μ' ν', R1 μ' ν' → ZW l D dA ad b N xs (cells + 1) (slots + 19) 1525 (lw ad b k) [] μ' ν') : ZW l D dA ad b N xs cells slots 421 (lw ad b k) [] μ ν := by
  obtain ⟨r, μ1, ν1, μ2, ν2, e1, e2, h2⟩ := one (sim_grid (q := 36) (xs (6 * k + 1))) h (fun out e r hr => ⟨(fr_S_grid e).1 r (by first | exact fun h => h | (dsimp only; omega)), (fr_S_grid e).2 r (by first | exact fun h => h | (dsimp only; omega))⟩) (fun μ ν out e r hr => ⟨(fr_M_grid e).1 r (by first | exact fun h => h | (dsimp only; omega)), (fr_M_grid e).2 r (by first | exact fun h => h | (dsimp only; omega))⟩)
  refine z_aload_n dW_421 3 rfl rfl ?_
  refine la_arg (j := 1) dW_422 dW_423 dW_425 dW_426 dW_427 rfl (by omega) hN ?_
  refine z_callV dW_428 (c_S_grid ro_W e1) mv_S_grid (zt4 78 (by decide +kernel) rfl) (fun _ _ h => h.1.1) (ro_W 0 _ rfl) rfl rfl ⟨(Nat.le_of_ble_eq_true rfl), (Nat.le_of_ble_eq_true rfl)⟩ ⟨by show cells + 0 ≤ 601024; omega, by show slots + 0 ≤ 7293034; omega⟩ rfl (Nat.le_of_ble_eq_true rfl) (fun r9 μ9 ν9 hq => ?_)
  obtain ⟨rfl, rfl, rfl⟩ := hq
  refine z_aload_n dW_431 2 rfl rfl ?_
  refine la_arg (j := 1) dW_432 dW_433 dW_435 dW_436 dW_437 rfl (by omega) hN ?_
  refine z_callV (b := 36) dW_438 (c_M_grid mo_W e2) mv_M_grid (zt7 27 (by decide +kernel) rfl) (fun _ _ h => h.1.1) (mo_W 0 _ rfl) rfl rfl ⟨(Nat.le_of_ble_eq_true rfl), (Nat.le_of_ble_eq_true rfl)⟩ ⟨by show cells + 0 + 0 ≤ 601024; omega, by show slots + 0 + 0 ≤ 7293034; omega⟩ rfl (Nat.le_of_ble_eq_true rfl) (fun r9 μ9 ν9 hq => ?_)
  obtain ⟨rfl, rfl, rfl⟩ := hq
  refine z_icmp_eq (tgt := 1525) dW_441 rfl (fun _ => ?_) (fun hne => absurd rfl hne)
  exact z_wide (by omega) (by omega) (kk _ _ h2)
set_option maxRecDepth 20000 in
theorem arm_tune (h : R1 μ ν) (hk : 6 * k + 6 ≤ N) (hN : N ≤ 3072) (hc : cells + 1 ≤ 601024) (hs : slots + 19 ≤ 7293034) (kk : ∀ μ' ν', R1 μ' ν' → ZW l D dA ad b N xs (cells + 1) (slots + 19) 1525 (lw ad b k) [] μ' ν') : ZW l D dA ad b N xs cells slots 446 (lw ad b k) [] μ ν := by
  obtain ⟨r, μ1, ν1, μ2, ν2, e1, e2, h2⟩ := one (sim_tune (q := 36) (xs (6 * k + 1))) h (fun out e r hr => ⟨(fr_S_tune e).1 r (by first | exact fun h => h | (dsimp only; omega)), (fr_S_tune e).2 r (by first | exact fun h => h | (dsimp only; omega))⟩) (fun μ ν out e r hr => ⟨(fr_M_tune e).1 r (by first | exact fun h => h | (dsimp only; omega)), (fr_M_tune e).2 r (by first | exact fun h => h | (dsimp only; omega))⟩)
  refine z_aload_n dW_446 3 rfl rfl ?_
  refine la_arg (j := 1) dW_447 dW_448 dW_450 dW_451 dW_452 rfl (by omega) hN ?_
  refine z_callV dW_453 (c_S_tune ro_W e1) mv_S_tune (zt4 82 (by decide +kernel) rfl) (fun _ _ h => h.1.1) (ro_W 0 _ rfl) rfl rfl ⟨(Nat.le_of_ble_eq_true rfl), (Nat.le_of_ble_eq_true rfl)⟩ ⟨by show cells + 0 ≤ 601024; omega, by show slots + 0 ≤ 7293034; omega⟩ rfl (Nat.le_of_ble_eq_true rfl) (fun r9 μ9 ν9 hq => ?_)
  obtain ⟨rfl, rfl, rfl⟩ := hq
  refine z_aload_n dW_456 2 rfl rfl ?_
  refine la_arg (j := 1) dW_457 dW_458 dW_460 dW_461 dW_462 rfl (by omega) hN ?_
  refine z_callV (b := 36) dW_463 (c_M_tune mo_W e2) mv_M_tune (zt7 31 (by decide +kernel) rfl) (fun _ _ h => h.1.1) (mo_W 0 _ rfl) rfl rfl ⟨(Nat.le_of_ble_eq_true rfl), (Nat.le_of_ble_eq_true rfl)⟩ ⟨by show cells + 0 + 0 ≤ 601024; omega, by show slots + 0 + 0 ≤ 7293034; omega⟩ rfl (Nat.le_of_ble_eq_true rfl) (fun r9 μ9 ν9 hq => ?_)
  obtain ⟨rfl, rfl, rfl⟩ := hq
  refine z_icmp_eq (tgt := 1525) dW_466 rfl (fun _ => ?_) (fun hne => absurd rfl hne)
  exact z_wide (by omega) (by omega) (kk _ _ h2)
set_option maxRecDepth 20000 in
theorem arm_scan (h : R1 μ ν) (hk : 6 * k + 6 ≤ N) (hN : N ≤ 3072) (hc : cells + 1 ≤ 601024) (hs : slots + 19 ≤ 7293034) (kk : ∀ μ' ν', R1 μ' ν' → ZW l D dA ad b N xs (cells + 1) (slots + 19) 1525 (lw ad b k) [] μ' ν') : ZW l D dA ad b N xs cells slots 471 (lw ad b k) [] μ ν := by
  obtain ⟨r, μ1, ν1, μ2, ν2, e1, e2, h2⟩ := one (sim_scanS (q := 36) ) h (fun out e r hr => ⟨(fr_S_scan e).1 r (by first | exact fun h => h | (dsimp only; omega)), (fr_S_scan e).2 r (by first | exact fun h => h | (dsimp only; omega))⟩) (fun μ ν out e r hr => ⟨(fr_M_scan e).1 r (by first | exact fun h => h | (dsimp only; omega)), (fr_M_scan e).2 r (by first | exact fun h => h | (dsimp only; omega))⟩)
  refine z_aload_n dW_471 3 rfl rfl ?_
  refine z_callV dW_472 (c_S_scan ro_W e1) mv_S_scan (zt4 88 (by decide +kernel) rfl) (fun _ _ h => h.1.1) (ro_W 0 _ rfl) rfl rfl ⟨(Nat.le_of_ble_eq_true rfl), (Nat.le_of_ble_eq_true rfl)⟩ ⟨by show cells + 0 ≤ 601024; omega, by show slots + 0 ≤ 7293034; omega⟩ rfl (Nat.le_of_ble_eq_true rfl) (fun r9 μ9 ν9 hq => ?_)
  obtain ⟨rfl, rfl, rfl⟩ := hq
  refine z_aload_n dW_475 2 rfl rfl ?_
  refine z_callV (b := 36) dW_476 (c_M_scan mo_W e2) mv_M_scan (zt7 35 (by decide +kernel) rfl) (fun _ _ h => h.1.1) (mo_W 0 _ rfl) rfl rfl ⟨(Nat.le_of_ble_eq_true rfl), (Nat.le_of_ble_eq_true rfl)⟩ ⟨by show cells + 0 + 0 ≤ 601024; omega, by show slots + 0 + 0 ≤ 7293034; omega⟩ rfl (Nat.le_of_ble_eq_true rfl) (fun r9 μ9 ν9 hq => ?_)
  obtain ⟨rfl, rfl, rfl⟩ := hq
  refine z_icmp_eq (tgt := 1525) dW_479 rfl (fun _ => ?_) (fun hne => absurd rfl hne)
  exact z_wide (by omega) (by omega) (kk _ _ h2)
set_option maxRecDepth 20000 in
theorem arm_told (h : R1 μ ν) (hk : 6 * k + 6 ≤ N) (hN : N ≤ 3072) (hc : cells + 1 ≤ 601024) (hs : slots + 19 ≤ 7293034) (kk : ∀ μ' ν', R1 μ' ν' → ZW l D dA ad b N xs (cells + 1) (slots + 19) 1525 (lw ad b k) [] μ' ν') : ZW l D dA ad b N xs cells slots 484 (lw ad b k) [] μ ν := by
  obtain ⟨r, μ1, ν1, μ2, ν2, e1, e2, h2⟩ := one (sim_told (q := 36) (xs (6 * k + 1))) h (fun out e r hr => ⟨(fr_S_told e).1 r (by first | exact fun h => h | (dsimp only; omega)), (fr_S_told e).2 r (by first | exact fun h => h | (dsimp only; omega))⟩) (fun μ ν out e r hr => ⟨(fr_M_told e).1 r (by first | exact fun h => h | (dsimp only; omega)), (fr_M_told e).2 r (by first | exact fun h => h | (dsimp only; omega))⟩)
  refine z_aload_n dW_484 3 rfl rfl ?_
  refine la_arg (j := 1) dW_485 dW_486 dW_488 dW_489 dW_490 rfl (by omega) hN ?_
  refine z_callV dW_491 (c_S_told ro_W e1) mv_S_told (zt4 93 (by decide +kernel) rfl) (fun _ _ h => h.1.1) (ro_W 0 _ rfl) rfl rfl ⟨(Nat.le_of_ble_eq_true rfl), (Nat.le_of_ble_eq_true rfl)⟩ ⟨by show cells + 0 ≤ 601024; omega, by show slots + 0 ≤ 7293034; omega⟩ rfl (Nat.le_of_ble_eq_true rfl) (fun r9 μ9 ν9 hq => ?_)
  obtain ⟨rfl, rfl, rfl⟩ := hq
  refine z_aload_n dW_494 2 rfl rfl ?_
  refine la_arg (j := 1) dW_495 dW_496 dW_498 dW_499 dW_500 rfl (by omega) hN ?_
  refine z_callV (b := 36) dW_501 (c_M_told mo_W e2) mv_M_told (zt7 39 (by decide +kernel) rfl) (fun _ _ h => h.1.1) (mo_W 0 _ rfl) rfl rfl ⟨(Nat.le_of_ble_eq_true rfl), (Nat.le_of_ble_eq_true rfl)⟩ ⟨by show cells + 0 + 0 ≤ 601024; omega, by show slots + 0 + 0 ≤ 7293034; omega⟩ rfl (Nat.le_of_ble_eq_true rfl) (fun r9 μ9 ν9 hq => ?_)
  obtain ⟨rfl, rfl, rfl⟩ := hq
  refine z_icmp_eq (tgt := 1525) dW_504 rfl (fun _ => ?_) (fun hne => absurd rfl hne)
  exact z_wide (by omega) (by omega) (kk _ _ h2)
set_option maxRecDepth 20000 in
theorem arm_settle (h : R1 μ ν) (hk : 6 * k + 6 ≤ N) (hN : N ≤ 3072) (hc : cells + 1 ≤ 601024) (hs : slots + 19 ≤ 7293034) (kk : ∀ μ' ν', R1 μ' ν' → ZW l D dA ad b N xs (cells + 1) (slots + 19) 1525 (lw ad b k) [] μ' ν') : ZW l D dA ad b N xs cells slots 509 (lw ad b k) [] μ ν := by
  obtain ⟨r, μ1, ν1, μ2, ν2, e1, e2, h2⟩ := one (sim_settle (q := 36) (xs (6 * k + 1)) (xs (6 * k + 2))) h (fun out e r hr => ⟨(fr_S_settle e).1 r (by first | exact fun h => h | (dsimp only; omega)), (fr_S_settle e).2 r (by first | exact fun h => h | (dsimp only; omega))⟩) (fun μ ν out e r hr => ⟨(fr_M_settle e).1 r (by first | exact fun h => h | (dsimp only; omega)), (fr_M_settle e).2 r (by first | exact fun h => h | (dsimp only; omega))⟩)
  refine z_aload_n dW_509 3 rfl rfl ?_
  refine la_arg (j := 1) dW_510 dW_511 dW_513 dW_514 dW_515 rfl (by omega) hN ?_
  refine la_arg (j := 2) dW_516 dW_517 dW_519 dW_520 dW_521 rfl (by omega) hN ?_
  refine z_callV dW_522 (c_S_settle ro_W e1) mv_S_settle (zt4 101 (by decide +kernel) rfl) (fun _ _ h => h.1.1) (ro_W 0 _ rfl) rfl rfl ⟨(Nat.le_of_ble_eq_true rfl), (Nat.le_of_ble_eq_true rfl)⟩ ⟨by show cells + 0 ≤ 601024; omega, by show slots + 0 ≤ 7293034; omega⟩ rfl (Nat.le_of_ble_eq_true rfl) (fun r9 μ9 ν9 hq => ?_)
  obtain ⟨rfl, rfl, rfl⟩ := hq
  refine z_aload_n dW_525 2 rfl rfl ?_
  refine la_arg (j := 1) dW_526 dW_527 dW_529 dW_530 dW_531 rfl (by omega) hN ?_
  refine la_arg (j := 2) dW_532 dW_533 dW_535 dW_536 dW_537 rfl (by omega) hN ?_
  refine z_callV (b := 36) dW_538 (c_M_settle mo_W e2) mv_M_settle (zt7 43 (by decide +kernel) rfl) (fun _ _ h => h.1.1) (mo_W 0 _ rfl) rfl rfl ⟨(Nat.le_of_ble_eq_true rfl), (Nat.le_of_ble_eq_true rfl)⟩ ⟨by show cells + 0 + 0 ≤ 601024; omega, by show slots + 0 + 0 ≤ 7293034; omega⟩ rfl (Nat.le_of_ble_eq_true rfl) (fun r9 μ9 ν9 hq => ?_)
  obtain ⟨rfl, rfl, rfl⟩ := hq
  refine z_icmp_eq (tgt := 1525) dW_541 rfl (fun _ => ?_) (fun hne => absurd rfl hne)
  exact z_wide (by omega) (by omega) (kk _ _ h2)
set_option maxRecDepth 20000 in
theorem arm_volts (h : R1 μ ν) (hk : 6 * k + 6 ≤ N) (hN : N ≤ 3072) (hc : cells + 1 ≤ 601024) (hs : slots + 19 ≤ 7293034) (kk : ∀ μ' ν', R1 μ' ν' → ZW l D dA ad b N xs (cells + 1) (slots + 19) 1525 (lw ad b k) [] μ' ν') : ZW l D dA ad b N xs cells slots 614 (lw ad b k) [] μ ν := by
  obtain ⟨r, μ1, ν1, μ2, ν2, e1, e2, h2⟩ := one (Sim_volts (q := 36) (xs (6 * k + 1))) h (fun out e r hr => ⟨(fr_S_volts e).1 r (by first | exact fun h => h | (dsimp only; omega)), (fr_S_volts e).2 r (by first | exact fun h => h | (dsimp only; omega))⟩) (fun μ ν out e r hr => ⟨(fr_M_volts e).1 r (by first | exact fun h => h | (dsimp only; omega)), (fr_M_volts e).2 r (by first | exact fun h => h | (dsimp only; omega))⟩)
  refine z_aload_n dW_614 3 rfl rfl ?_
  refine la_arg (j := 1) dW_615 dW_616 dW_618 dW_619 dW_620 rfl (by omega) hN ?_
  refine z_callV dW_621 (c_S_volts ro_W e1) mv_S_volts (zt4 109 (by decide +kernel) rfl) (fun _ _ h => h.1.1) (ro_W 0 _ rfl) rfl rfl ⟨(Nat.le_of_ble_eq_true rfl), (Nat.le_of_ble_eq_true rfl)⟩ ⟨by show cells + 0 ≤ 601024; omega, by show slots + 0 ≤ 7293034; omega⟩ rfl (Nat.le_of_ble_eq_true rfl) (fun r9 μ9 ν9 hq => ?_)
  obtain ⟨rfl, rfl, rfl⟩ := hq
  refine z_aload_n dW_624 2 rfl rfl ?_
  refine la_arg (j := 1) dW_625 dW_626 dW_628 dW_629 dW_630 rfl (by omega) hN ?_
  refine z_callV (b := 36) dW_631 (c_M_volts mo_W e2) mv_M_volts (zt7 51 (by decide +kernel) rfl) (fun _ _ h => h.1.1) (mo_W 0 _ rfl) rfl rfl ⟨(Nat.le_of_ble_eq_true rfl), (Nat.le_of_ble_eq_true rfl)⟩ ⟨by show cells + 0 + 0 ≤ 601024; omega, by show slots + 0 + 0 ≤ 7293034; omega⟩ rfl (Nat.le_of_ble_eq_true rfl) (fun r9 μ9 ν9 hq => ?_)
  obtain ⟨rfl, rfl, rfl⟩ := hq
  refine z_icmp_eq (tgt := 1525) dW_634 rfl (fun _ => ?_) (fun hne => absurd rfl hne)
  exact z_wide (by omega) (by omega) (kk _ _ h2)
set_option maxRecDepth 20000 in
theorem arm_power (h : R1 μ ν) (hk : 6 * k + 6 ≤ N) (hN : N ≤ 3072) (hc : cells + 1 ≤ 601024) (hs : slots + 19 ≤ 7293034) (kk : ∀ μ' ν', R1 μ' ν' → ZW l D dA ad b N xs (cells + 1) (slots + 19) 1525 (lw ad b k) [] μ' ν') : ZW l D dA ad b N xs cells slots 639 (lw ad b k) [] μ ν := by
  obtain ⟨r, μ1, ν1, μ2, ν2, e1, e2, h2⟩ := one (Sim_power (q := 36) (xs (6 * k + 1))) h (fun out e r hr => ⟨(fr_S_power e).1 r (by first | exact fun h => h | (dsimp only; omega)), (fr_S_power e).2 r (by first | exact fun h => h | (dsimp only; omega))⟩) (fun μ ν out e r hr => ⟨(fr_M_power e).1 r (by first | exact fun h => h | (dsimp only; omega)), (fr_M_power e).2 r (by first | exact fun h => h | (dsimp only; omega))⟩)
  refine z_aload_n dW_639 3 rfl rfl ?_
  refine la_arg (j := 1) dW_640 dW_641 dW_643 dW_644 dW_645 rfl (by omega) hN ?_
  refine z_callV dW_646 (c_S_power ro_W e1) mv_S_power (zt4 117 (by decide +kernel) rfl) (fun _ _ h => h.1.1) (ro_W 0 _ rfl) rfl rfl ⟨(Nat.le_of_ble_eq_true rfl), (Nat.le_of_ble_eq_true rfl)⟩ ⟨by show cells + 0 ≤ 601024; omega, by show slots + 0 ≤ 7293034; omega⟩ rfl (Nat.le_of_ble_eq_true rfl) (fun r9 μ9 ν9 hq => ?_)
  obtain ⟨rfl, rfl, rfl⟩ := hq
  refine z_aload_n dW_649 2 rfl rfl ?_
  refine la_arg (j := 1) dW_650 dW_651 dW_653 dW_654 dW_655 rfl (by omega) hN ?_
  refine z_callV (b := 36) dW_656 (c_M_power mo_W e2) mv_M_power (zt7 58 (by decide +kernel) rfl) (fun _ _ h => h.1.1) (mo_W 0 _ rfl) rfl rfl ⟨(Nat.le_of_ble_eq_true rfl), (Nat.le_of_ble_eq_true rfl)⟩ ⟨by show cells + 0 + 0 ≤ 601024; omega, by show slots + 0 + 0 ≤ 7293034; omega⟩ rfl (Nat.le_of_ble_eq_true rfl) (fun r9 μ9 ν9 hq => ?_)
  obtain ⟨rfl, rfl, rfl⟩ := hq
  refine z_icmp_eq (tgt := 1525) dW_659 rfl (fun _ => ?_) (fun hne => absurd rfl hne)
  exact z_wide (by omega) (by omega) (kk _ _ h2)
set_option maxRecDepth 20000 in
theorem arm_tops (h : R1 μ ν) (hk : 6 * k + 6 ≤ N) (hN : N ≤ 3072) (hc : cells + 1 ≤ 601024) (hs : slots + 19 ≤ 7293034) (kk : ∀ μ' ν', R1 μ' ν' → ZW l D dA ad b N xs (cells + 1) (slots + 19) 1525 (lw ad b k) [] μ' ν') : ZW l D dA ad b N xs cells slots 664 (lw ad b k) [] μ ν := by
  obtain ⟨r, μ1, ν1, μ2, ν2, e1, e2, h2⟩ := one (Sim_tops (q := 36) ) h (fun out e r hr => ⟨(fr_S_tops e).1 r (by first | exact fun h => h | (dsimp only; omega)), (fr_S_tops e).2 r (by first | exact fun h => h | (dsimp only; omega))⟩) (fun μ ν out e r hr => ⟨(fr_M_tops e).1 r (by first | exact fun h => h | (dsimp only; omega)), (fr_M_tops e).2 r (by first | exact fun h => h | (dsimp only; omega))⟩)
  refine z_aload_n dW_664 3 rfl rfl ?_
  refine z_callV dW_665 (c_S_tops ro_W e1) mv_S_tops (zt4 122 (by decide +kernel) rfl) (fun _ _ h => h.1.1) (ro_W 0 _ rfl) rfl rfl ⟨(Nat.le_of_ble_eq_true rfl), (Nat.le_of_ble_eq_true rfl)⟩ ⟨by show cells + 0 ≤ 601024; omega, by show slots + 0 ≤ 7293034; omega⟩ rfl (Nat.le_of_ble_eq_true rfl) (fun r9 μ9 ν9 hq => ?_)
  obtain ⟨rfl, rfl, rfl⟩ := hq
  refine z_aload_n dW_668 2 rfl rfl ?_
  refine z_callV (b := 36) dW_669 (c_M_tops mo_W e2) mv_M_tops (zt7 67 (by decide +kernel) rfl) (fun _ _ h => h.1.1) (mo_W 0 _ rfl) rfl rfl ⟨(Nat.le_of_ble_eq_true rfl), (Nat.le_of_ble_eq_true rfl)⟩ ⟨by show cells + 0 + 0 ≤ 601024; omega, by show slots + 0 + 0 ≤ 7293034; omega⟩ rfl (Nat.le_of_ble_eq_true rfl) (fun r9 μ9 ν9 hq => ?_)
  obtain ⟨rfl, rfl, rfl⟩ := hq
  refine z_icmp_eq (tgt := 1525) dW_672 rfl (fun _ => ?_) (fun hne => absurd rfl hne)
  exact z_wide (by omega) (by omega) (kk _ _ h2)
set_option maxRecDepth 20000 in
theorem arm_top (h : R1 μ ν) (hk : 6 * k + 6 ≤ N) (hN : N ≤ 3072) (hc : cells + 1 ≤ 601024) (hs : slots + 19 ≤ 7293034) (kk : ∀ μ' ν', R1 μ' ν' → ZW l D dA ad b N xs (cells + 1) (slots + 19) 1525 (lw ad b k) [] μ' ν') : ZW l D dA ad b N xs cells slots 677 (lw ad b k) [] μ ν := by
  obtain ⟨r, μ1, ν1, μ2, ν2, e1, e2, h2⟩ := one (Sim_top (q := 36) (xs (6 * k + 1)) (xs (6 * k + 2))) h (fun out e r hr => ⟨(fr_S_top e).1 r (by first | exact fun h => h | (dsimp only; omega)), (fr_S_top e).2 r (by first | exact fun h => h | (dsimp only; omega))⟩) (fun μ ν out e r hr => ⟨(fr_M_top e).1 r (by first | exact fun h => h | (dsimp only; omega)), (fr_M_top e).2 r (by first | exact fun h => h | (dsimp only; omega))⟩)
  refine z_aload_n dW_677 3 rfl rfl ?_
  refine la_arg (j := 1) dW_678 dW_679 dW_681 dW_682 dW_683 rfl (by omega) hN ?_
  refine la_arg (j := 2) dW_684 dW_685 dW_687 dW_688 dW_689 rfl (by omega) hN ?_
  refine z_callV dW_690 (c_S_top ro_W e1) mv_S_top (zt4 130 (by decide +kernel) rfl) (fun _ _ h => h.1.1) (ro_W 0 _ rfl) rfl rfl ⟨(Nat.le_of_ble_eq_true rfl), (Nat.le_of_ble_eq_true rfl)⟩ ⟨by show cells + 0 ≤ 601024; omega, by show slots + 0 ≤ 7293034; omega⟩ rfl (Nat.le_of_ble_eq_true rfl) (fun r9 μ9 ν9 hq => ?_)
  obtain ⟨rfl, rfl, rfl⟩ := hq
  refine z_aload_n dW_693 2 rfl rfl ?_
  refine la_arg (j := 1) dW_694 dW_695 dW_697 dW_698 dW_699 rfl (by omega) hN ?_
  refine la_arg (j := 2) dW_700 dW_701 dW_703 dW_704 dW_705 rfl (by omega) hN ?_
  refine z_callV (b := 36) dW_706 (c_M_top mo_W e2) mv_M_top (zt7 75 (by decide +kernel) rfl) (fun _ _ h => h.1.1) (mo_W 0 _ rfl) rfl rfl ⟨(Nat.le_of_ble_eq_true rfl), (Nat.le_of_ble_eq_true rfl)⟩ ⟨by show cells + 0 + 0 ≤ 601024; omega, by show slots + 0 + 0 ≤ 7293034; omega⟩ rfl (Nat.le_of_ble_eq_true rfl) (fun r9 μ9 ν9 hq => ?_)
  obtain ⟨rfl, rfl, rfl⟩ := hq
  refine z_icmp_eq (tgt := 1525) dW_709 rfl (fun _ => ?_) (fun hne => absurd rfl hne)
  exact z_wide (by omega) (by omega) (kk _ _ h2)
set_option maxRecDepth 20000 in
theorem arm_best (h : R1 μ ν) (hk : 6 * k + 6 ≤ N) (hN : N ≤ 3072) (hc : cells + 1 ≤ 601024) (hs : slots + 19 ≤ 7293034) (kk : ∀ μ' ν', R1 μ' ν' → ZW l D dA ad b N xs (cells + 1) (slots + 19) 1525 (lw ad b k) [] μ' ν') : ZW l D dA ad b N xs cells slots 714 (lw ad b k) [] μ ν := by
  obtain ⟨r, μ1, ν1, μ2, ν2, e1, e2, h2⟩ := one (Sim_best (q := 36) (xs (6 * k + 1))) h (fun out e r hr => ⟨(fr_S_best e).1 r (by first | exact fun h => h | (dsimp only; omega)), (fr_S_best e).2 r (by first | exact fun h => h | (dsimp only; omega))⟩) (fun μ ν out e r hr => ⟨(fr_M_best e).1 r (by first | exact fun h => h | (dsimp only; omega)), (fr_M_best e).2 r (by first | exact fun h => h | (dsimp only; omega))⟩)
  refine z_aload_n dW_714 3 rfl rfl ?_
  refine la_arg (j := 1) dW_715 dW_716 dW_718 dW_719 dW_720 rfl (by omega) hN ?_
  refine z_callV dW_721 (c_S_best ro_W e1) mv_S_best (zt4 134 (by decide +kernel) rfl) (fun _ _ h => h.1.1) (ro_W 0 _ rfl) rfl rfl ⟨(Nat.le_of_ble_eq_true rfl), (Nat.le_of_ble_eq_true rfl)⟩ ⟨by show cells + 0 ≤ 601024; omega, by show slots + 0 ≤ 7293034; omega⟩ rfl (Nat.le_of_ble_eq_true rfl) (fun r9 μ9 ν9 hq => ?_)
  obtain ⟨rfl, rfl, rfl⟩ := hq
  refine z_aload_n dW_724 2 rfl rfl ?_
  refine la_arg (j := 1) dW_725 dW_726 dW_728 dW_729 dW_730 rfl (by omega) hN ?_
  refine z_callV (b := 36) dW_731 (c_M_best mo_W e2) mv_M_best (zt7 79 (by decide +kernel) rfl) (fun _ _ h => h.1.1) (mo_W 0 _ rfl) rfl rfl ⟨(Nat.le_of_ble_eq_true rfl), (Nat.le_of_ble_eq_true rfl)⟩ ⟨by show cells + 0 + 0 ≤ 601024; omega, by show slots + 0 + 0 ≤ 7293034; omega⟩ rfl (Nat.le_of_ble_eq_true rfl) (fun r9 μ9 ν9 hq => ?_)
  obtain ⟨rfl, rfl, rfl⟩ := hq
  refine z_icmp_eq (tgt := 1525) dW_734 rfl (fun _ => ?_) (fun hne => absurd rfl hne)
  exact z_wide (by omega) (by omega) (kk _ _ h2)
set_option maxRecDepth 20000 in
theorem arm_band (h : R1 μ ν) (hk : 6 * k + 6 ≤ N) (hN : N ≤ 3072) (hc : cells + 1 ≤ 601024) (hs : slots + 19 ≤ 7293034) (kk : ∀ μ' ν', R1 μ' ν' → ZW l D dA ad b N xs (cells + 1) (slots + 19) 1525 (lw ad b k) [] μ' ν') : ZW l D dA ad b N xs cells slots 739 (lw ad b k) [] μ ν := by
  obtain ⟨r, μ1, ν1, μ2, ν2, e1, e2, h2⟩ := one (Sim_band (q := 36) (xs (6 * k + 1)) (xs (6 * k + 2))) h (fun out e r hr => ⟨(fr_S_band e).1 r (by first | exact fun h => h | (dsimp only; omega)), (fr_S_band e).2 r (by first | exact fun h => h | (dsimp only; omega))⟩) (fun μ ν out e r hr => ⟨(fr_M_band e).1 r (by first | exact fun h => h | (dsimp only; omega)), (fr_M_band e).2 r (by first | exact fun h => h | (dsimp only; omega))⟩)
  refine z_aload_n dW_739 3 rfl rfl ?_
  refine la_arg (j := 1) dW_740 dW_741 dW_743 dW_744 dW_745 rfl (by omega) hN ?_
  refine la_arg (j := 2) dW_746 dW_747 dW_749 dW_750 dW_751 rfl (by omega) hN ?_
  refine z_callV dW_752 (c_S_band ro_W e1) mv_S_band (zt4 138 (by decide +kernel) rfl) (fun _ _ h => h.1.1) (ro_W 0 _ rfl) rfl rfl ⟨(Nat.le_of_ble_eq_true rfl), (Nat.le_of_ble_eq_true rfl)⟩ ⟨by show cells + 0 ≤ 601024; omega, by show slots + 0 ≤ 7293034; omega⟩ rfl (Nat.le_of_ble_eq_true rfl) (fun r9 μ9 ν9 hq => ?_)
  obtain ⟨rfl, rfl, rfl⟩ := hq
  refine z_aload_n dW_755 2 rfl rfl ?_
  refine la_arg (j := 1) dW_756 dW_757 dW_759 dW_760 dW_761 rfl (by omega) hN ?_
  refine la_arg (j := 2) dW_762 dW_763 dW_765 dW_766 dW_767 rfl (by omega) hN ?_
  refine z_callV (b := 36) dW_768 (c_M_band mo_W e2) mv_M_band (zt7 83 (by decide +kernel) rfl) (fun _ _ h => h.1.1) (mo_W 0 _ rfl) rfl rfl ⟨(Nat.le_of_ble_eq_true rfl), (Nat.le_of_ble_eq_true rfl)⟩ ⟨by show cells + 0 + 0 ≤ 601024; omega, by show slots + 0 + 0 ≤ 7293034; omega⟩ rfl (Nat.le_of_ble_eq_true rfl) (fun r9 μ9 ν9 hq => ?_)
  obtain ⟨rfl, rfl, rfl⟩ := hq
  refine z_icmp_eq (tgt := 1525) dW_771 rfl (fun _ => ?_) (fun hne => absurd rfl hne)
  exact z_wide (by omega) (by omega) (kk _ _ h2)
set_option maxRecDepth 20000 in
theorem arm_climbed (h : R1 μ ν) (hk : 6 * k + 6 ≤ N) (hN : N ≤ 3072) (hc : cells + 1 ≤ 601024) (hs : slots + 19 ≤ 7293034) (kk : ∀ μ' ν', R1 μ' ν' → ZW l D dA ad b N xs (cells + 1) (slots + 19) 1525 (lw ad b k) [] μ' ν') : ZW l D dA ad b N xs cells slots 776 (lw ad b k) [] μ ν := by
  obtain ⟨r, μ1, ν1, μ2, ν2, e1, e2, h2⟩ := one (Sim_climbed (q := 36) (xs (6 * k + 1))) h (fun out e r hr => ⟨(fr_S_climbed e).1 r (by first | exact fun h => h | (dsimp only; omega)), (fr_S_climbed e).2 r (by first | exact fun h => h | (dsimp only; omega))⟩) (fun μ ν out e r hr => ⟨(fr_M_climbed e).1 r (by first | exact fun h => h | (dsimp only; omega)), (fr_M_climbed e).2 r (by first | exact fun h => h | (dsimp only; omega))⟩)
  refine z_aload_n dW_776 3 rfl rfl ?_
  refine la_arg (j := 1) dW_777 dW_778 dW_780 dW_781 dW_782 rfl (by omega) hN ?_
  refine z_callV dW_783 (c_S_climbed ro_W e1) mv_S_climbed (zt4 145 (by decide +kernel) rfl) (fun _ _ h => h.1.1) (ro_W 0 _ rfl) rfl rfl ⟨(Nat.le_of_ble_eq_true rfl), (Nat.le_of_ble_eq_true rfl)⟩ ⟨by show cells + 0 ≤ 601024; omega, by show slots + 0 ≤ 7293034; omega⟩ rfl (Nat.le_of_ble_eq_true rfl) (fun r9 μ9 ν9 hq => ?_)
  obtain ⟨rfl, rfl, rfl⟩ := hq
  refine z_aload_n dW_786 2 rfl rfl ?_
  refine la_arg (j := 1) dW_787 dW_788 dW_790 dW_791 dW_792 rfl (by omega) hN ?_
  refine z_callV (b := 36) dW_793 (c_M_climbed mo_W e2) mv_M_climbed (zt7 87 (by decide +kernel) rfl) (fun _ _ h => h.1.1) (mo_W 0 _ rfl) rfl rfl ⟨(Nat.le_of_ble_eq_true rfl), (Nat.le_of_ble_eq_true rfl)⟩ ⟨by show cells + 0 + 0 ≤ 601024; omega, by show slots + 0 + 0 ≤ 7293034; omega⟩ rfl (Nat.le_of_ble_eq_true rfl) (fun r9 μ9 ν9 hq => ?_)
  obtain ⟨rfl, rfl, rfl⟩ := hq
  refine z_icmp_eq (tgt := 1525) dW_796 rfl (fun _ => ?_) (fun hne => absurd rfl hne)
  exact z_wide (by omega) (by omega) (kk _ _ h2)
set_option maxRecDepth 20000 in
theorem arm_shadeOf (h : R1 μ ν) (hk : 6 * k + 6 ≤ N) (hN : N ≤ 3072) (hc : cells + 1 ≤ 601024) (hs : slots + 19 ≤ 7293034) (kk : ∀ μ' ν', R1 μ' ν' → ZW l D dA ad b N xs (cells + 1) (slots + 19) 1525 (lw ad b k) [] μ' ν') : ZW l D dA ad b N xs cells slots 801 (lw ad b k) [] μ ν := by
  obtain ⟨r, μ1, ν1, μ2, ν2, e1, e2, h2⟩ := one (Sim_shadeOf (q := 36) (xs (6 * k + 1))) h (fun out e r hr => ⟨(fr_S_shadeOf e).1 r (by first | exact fun h => h | (dsimp only; omega)), (fr_S_shadeOf e).2 r (by first | exact fun h => h | (dsimp only; omega))⟩) (fun μ ν out e r hr => ⟨(fr_M_shadeOf e).1 r (by first | exact fun h => h | (dsimp only; omega)), (fr_M_shadeOf e).2 r (by first | exact fun h => h | (dsimp only; omega))⟩)
  refine z_aload_n dW_801 3 rfl rfl ?_
  refine la_arg (j := 1) dW_802 dW_803 dW_805 dW_806 dW_807 rfl (by omega) hN ?_
  refine z_callV dW_808 (c_S_shadeOf ro_W e1) mv_S_shadeOf (zt4 150 (by decide +kernel) rfl) (fun _ _ h => h.1.1) (ro_W 0 _ rfl) rfl rfl ⟨(Nat.le_of_ble_eq_true rfl), (Nat.le_of_ble_eq_true rfl)⟩ ⟨by show cells + 0 ≤ 601024; omega, by show slots + 0 ≤ 7293034; omega⟩ rfl (Nat.le_of_ble_eq_true rfl) (fun r9 μ9 ν9 hq => ?_)
  obtain ⟨rfl, rfl, rfl⟩ := hq
  refine z_aload_n dW_811 2 rfl rfl ?_
  refine la_arg (j := 1) dW_812 dW_813 dW_815 dW_816 dW_817 rfl (by omega) hN ?_
  refine z_callV (b := 36) dW_818 (c_M_shadeOf mo_W e2) mv_M_shadeOf (zt7 91 (by decide +kernel) rfl) (fun _ _ h => h.1.1) (mo_W 0 _ rfl) rfl rfl ⟨(Nat.le_of_ble_eq_true rfl), (Nat.le_of_ble_eq_true rfl)⟩ ⟨by show cells + 0 + 0 ≤ 601024; omega, by show slots + 0 + 0 ≤ 7293034; omega⟩ rfl (Nat.le_of_ble_eq_true rfl) (fun r9 μ9 ν9 hq => ?_)
  obtain ⟨rfl, rfl, rfl⟩ := hq
  refine z_icmp_eq (tgt := 1525) dW_821 rfl (fun _ => ?_) (fun hne => absurd rfl hne)
  exact z_wide (by omega) (by omega) (kk _ _ h2)
set_option maxRecDepth 20000 in
theorem arm_lightFor (h : R1 μ ν) (hk : 6 * k + 6 ≤ N) (hN : N ≤ 3072) (hc : cells + 1 ≤ 601024) (hs : slots + 19 ≤ 7293034) (kk : ∀ μ' ν', R1 μ' ν' → ZW l D dA ad b N xs (cells + 1) (slots + 19) 1525 (lw ad b k) [] μ' ν') : ZW l D dA ad b N xs cells slots 826 (lw ad b k) [] μ ν := by
  obtain ⟨r, μ1, ν1, μ2, ν2, e1, e2, h2⟩ := one (Sim_lightFor (q := 36) (xs (6 * k + 1)) (xs (6 * k + 2))) h (fun out e r hr => ⟨(fr_S_lightFor e).1 r (by first | exact fun h => h | (dsimp only; omega)), (fr_S_lightFor e).2 r (by first | exact fun h => h | (dsimp only; omega))⟩) (fun μ ν out e r hr => ⟨(fr_M_lightFor e).1 r (by first | exact fun h => h | (dsimp only; omega)), (fr_M_lightFor e).2 r (by first | exact fun h => h | (dsimp only; omega))⟩)
  refine z_aload_n dW_826 3 rfl rfl ?_
  refine la_arg (j := 1) dW_827 dW_828 dW_830 dW_831 dW_832 rfl (by omega) hN ?_
  refine la_arg (j := 2) dW_833 dW_834 dW_836 dW_837 dW_838 rfl (by omega) hN ?_
  refine z_callV dW_839 (c_S_lightFor ro_W e1) mv_S_lightFor (zt4 159 (by decide +kernel) rfl) (fun _ _ h => h.1.1) (ro_W 0 _ rfl) rfl rfl ⟨(Nat.le_of_ble_eq_true rfl), (Nat.le_of_ble_eq_true rfl)⟩ ⟨by show cells + 0 ≤ 601024; omega, by show slots + 0 ≤ 7293034; omega⟩ rfl (Nat.le_of_ble_eq_true rfl) (fun r9 μ9 ν9 hq => ?_)
  obtain ⟨rfl, rfl, rfl⟩ := hq
  refine z_aload_n dW_842 2 rfl rfl ?_
  refine la_arg (j := 1) dW_843 dW_844 dW_846 dW_847 dW_848 rfl (by omega) hN ?_
  refine la_arg (j := 2) dW_849 dW_850 dW_852 dW_853 dW_854 rfl (by omega) hN ?_
  refine z_callV (b := 36) dW_855 (c_M_lightFor mo_W e2) mv_M_lightFor (zt7 99 (by decide +kernel) rfl) (fun _ _ h => h.1.1) (mo_W 0 _ rfl) rfl rfl ⟨(Nat.le_of_ble_eq_true rfl), (Nat.le_of_ble_eq_true rfl)⟩ ⟨by show cells + 0 + 0 ≤ 601024; omega, by show slots + 0 + 0 ≤ 7293034; omega⟩ rfl (Nat.le_of_ble_eq_true rfl) (fun r9 μ9 ν9 hq => ?_)
  obtain ⟨rfl, rfl, rfl⟩ := hq
  refine z_icmp_eq (tgt := 1525) dW_858 rfl (fun _ => ?_) (fun hne => absurd rfl hne)
  exact z_wide (by omega) (by omega) (kk _ _ h2)
set_option maxRecDepth 20000 in
theorem arm_darkest (h : R1 μ ν) (hk : 6 * k + 6 ≤ N) (hN : N ≤ 3072) (hc : cells + 1 ≤ 601024) (hs : slots + 19 ≤ 7293034) (kk : ∀ μ' ν', R1 μ' ν' → ZW l D dA ad b N xs (cells + 1) (slots + 19) 1525 (lw ad b k) [] μ' ν') : ZW l D dA ad b N xs cells slots 863 (lw ad b k) [] μ ν := by
  obtain ⟨r, μ1, ν1, μ2, ν2, e1, e2, h2⟩ := one (Sim_darkest (q := 36) ) h (fun out e r hr => ⟨(fr_S_darkest e).1 r (by first | exact fun h => h | (dsimp only; omega)), (fr_S_darkest e).2 r (by first | exact fun h => h | (dsimp only; omega))⟩) (fun μ ν out e r hr => ⟨(fr_M_darkest e).1 r (by first | exact fun h => h | (dsimp only; omega)), (fr_M_darkest e).2 r (by first | exact fun h => h | (dsimp only; omega))⟩)
  refine z_aload_n dW_863 3 rfl rfl ?_
  refine z_callV dW_864 (c_S_darkest ro_W e1) mv_S_darkest (zt4 164 (by decide +kernel) rfl) (fun _ _ h => h.1.1) (ro_W 0 _ rfl) rfl rfl ⟨(Nat.le_of_ble_eq_true rfl), (Nat.le_of_ble_eq_true rfl)⟩ ⟨by show cells + 0 ≤ 601024; omega, by show slots + 0 ≤ 7293034; omega⟩ rfl (Nat.le_of_ble_eq_true rfl) (fun r9 μ9 ν9 hq => ?_)
  obtain ⟨rfl, rfl, rfl⟩ := hq
  refine z_aload_n dW_867 2 rfl rfl ?_
  refine z_callV (b := 36) dW_868 (c_M_darkest mo_W e2) mv_M_darkest (zt7 104 (by decide +kernel) rfl) (fun _ _ h => h.1.1) (mo_W 0 _ rfl) rfl rfl ⟨(Nat.le_of_ble_eq_true rfl), (Nat.le_of_ble_eq_true rfl)⟩ ⟨by show cells + 0 + 0 ≤ 601024; omega, by show slots + 0 + 0 ≤ 7293034; omega⟩ rfl (Nat.le_of_ble_eq_true rfl) (fun r9 μ9 ν9 hq => ?_)
  obtain ⟨rfl, rfl, rfl⟩ := hq
  refine z_icmp_eq (tgt := 1525) dW_871 rfl (fun _ => ?_) (fun hne => absurd rfl hne)
  exact z_wide (by omega) (by omega) (kk _ _ h2)
set_option maxRecDepth 20000 in
theorem arm_now (h : R1 μ ν) (hk : 6 * k + 6 ≤ N) (hN : N ≤ 3072) (hc : cells + 1 ≤ 601024) (hs : slots + 19 ≤ 7293034) (kk : ∀ μ' ν', R1 μ' ν' → ZW l D dA ad b N xs (cells + 1) (slots + 19) 1525 (lw ad b k) [] μ' ν') : ZW l D dA ad b N xs cells slots 876 (lw ad b k) [] μ ν := by
  obtain ⟨r, μ1, ν1, μ2, ν2, e1, e2, h2⟩ := one (sim_now (q := 36) (xs (6 * k + 1))) h (fun out e r hr => ⟨(fr_S_now e).1 r (by first | exact fun h => h | (dsimp only; omega)), (fr_S_now e).2 r (by first | exact fun h => h | (dsimp only; omega))⟩) (fun μ ν out e r hr => ⟨(fr_M_now e).1 r (by first | exact fun h => h | (dsimp only; omega)), (fr_M_now e).2 r (by first | exact fun h => h | (dsimp only; omega))⟩)
  refine z_aload_n dW_876 3 rfl rfl ?_
  refine la_arg (j := 1) dW_877 dW_878 dW_880 dW_881 dW_882 rfl (by omega) hN ?_
  refine z_callV dW_883 (c_S_now ro_W e1) mv_S_now (zt4 168 (by decide +kernel) rfl) (fun _ _ h => h.1.1) (ro_W 0 _ rfl) rfl rfl ⟨(Nat.le_of_ble_eq_true rfl), (Nat.le_of_ble_eq_true rfl)⟩ ⟨by show cells + 0 ≤ 601024; omega, by show slots + 0 ≤ 7293034; omega⟩ rfl (Nat.le_of_ble_eq_true rfl) (fun r9 μ9 ν9 hq => ?_)
  obtain ⟨rfl, rfl, rfl⟩ := hq
  refine z_aload_n dW_886 2 rfl rfl ?_
  refine la_arg (j := 1) dW_887 dW_888 dW_890 dW_891 dW_892 rfl (by omega) hN ?_
  refine z_callV (b := 36) dW_893 (c_M_now mo_W e2) mv_M_now (zt7 112 (by decide +kernel) rfl) (fun _ _ h => h.1.1) (mo_W 0 _ rfl) rfl rfl ⟨(Nat.le_of_ble_eq_true rfl), (Nat.le_of_ble_eq_true rfl)⟩ ⟨by show cells + 0 + 0 ≤ 601024; omega, by show slots + 0 + 0 ≤ 7293034; omega⟩ rfl (Nat.le_of_ble_eq_true rfl) (fun r9 μ9 ν9 hq => ?_)
  obtain ⟨rfl, rfl, rfl⟩ := hq
  refine z_icmp_eq (tgt := 1525) dW_896 rfl (fun _ => ?_) (fun hne => absurd rfl hne)
  exact z_wide (by omega) (by omega) (kk _ _ h2)
set_option maxRecDepth 20000 in
theorem arm_sum (h : R1 μ ν) (hk : 6 * k + 6 ≤ N) (hN : N ≤ 3072) (hc : cells + 1 ≤ 601024) (hs : slots + 19 ≤ 7293034) (kk : ∀ μ' ν', R1 μ' ν' → ZW l D dA ad b N xs (cells + 1) (slots + 19) 1525 (lw ad b k) [] μ' ν') : ZW l D dA ad b N xs cells slots 901 (lw ad b k) [] μ ν := by
  obtain ⟨r, μ1, ν1, μ2, ν2, e1, e2, h2⟩ := oneL (sim_sum (q := 36) (xs (6 * k + 1))) h (fun out e r hr => ⟨(fr_S_sum e).1 r (by first | exact fun h => h | (dsimp only; omega)), (fr_S_sum e).2 r (by first | exact fun h => h | (dsimp only; omega))⟩) (fun μ ν out e r hr => ⟨(fr_M_sum e).1 r (by first | exact fun h => h | (dsimp only; omega)), (fr_M_sum e).2 r (by first | exact fun h => h | (dsimp only; omega))⟩)
  refine z_aload_n dW_901 3 rfl rfl ?_
  refine la_arg (j := 1) dW_902 dW_903 dW_905 dW_906 dW_907 rfl (by omega) hN ?_
  refine z_callV dW_908 (c_S_sum ro_W e1) mv_S_sum (zt4 181 (by decide +kernel) rfl) (fun _ _ h => h.1.1) (ro_W 0 _ rfl) rfl rfl ⟨(Nat.le_of_ble_eq_true rfl), (Nat.le_of_ble_eq_true rfl)⟩ ⟨by show cells + 0 ≤ 601024; omega, by show slots + 0 ≤ 7293034; omega⟩ rfl (Nat.le_of_ble_eq_true rfl) (fun r9 μ9 ν9 hq => ?_)
  obtain ⟨rfl, rfl, rfl⟩ := hq
  refine z_aload_n dW_911 2 rfl rfl ?_
  refine la_arg (j := 1) dW_912 dW_913 dW_915 dW_916 dW_917 rfl (by omega) hN ?_
  refine z_callV (b := 36) dW_918 (c_M_sum mo_W e2) mv_M_sum (zt7 116 (by decide +kernel) rfl) (fun _ _ h => h.1.1) (mo_W 0 _ rfl) rfl rfl ⟨(Nat.le_of_ble_eq_true rfl), (Nat.le_of_ble_eq_true rfl)⟩ ⟨by show cells + 0 + 0 ≤ 601024; omega, by show slots + 0 + 0 ≤ 7293034; omega⟩ rfl (Nat.le_of_ble_eq_true rfl) (fun r9 μ9 ν9 hq => ?_)
  obtain ⟨rfl, rfl, rfl⟩ := hq
  refine z_lcmp dW_921 ?_
  rw [lcmp_0]
  refine z_if_eq (tgt := 1525) dW_922 rfl (fun _ => ?_) (fun hne => absurd rfl hne)
  exact z_wide (by omega) (by omega) (kk _ _ h2)
set_option maxRecDepth 20000 in
theorem arm_past (h : R1 μ ν) (hk : 6 * k + 6 ≤ N) (hN : N ≤ 3072) (hc : cells + 1 ≤ 601024) (hs : slots + 19 ≤ 7293034) (kk : ∀ μ' ν', R1 μ' ν' → ZW l D dA ad b N xs (cells + 1) (slots + 19) 1525 (lw ad b k) [] μ' ν') : ZW l D dA ad b N xs cells slots 927 (lw ad b k) [] μ ν := by
  obtain ⟨r, μ1, ν1, μ2, ν2, e1, e2, h2⟩ := one (sim_past (q := 36) (xs (6 * k + 1)) (xs (6 * k + 2))) h (fun out e r hr => ⟨(fr_S_past e).1 r (by first | exact fun h => h | (dsimp only; omega)), (fr_S_past e).2 r (by first | exact fun h => h | (dsimp only; omega))⟩) (fun μ ν out e r hr => ⟨(fr_M_past e).1 r (by first | exact fun h => h | (dsimp only; omega)), (fr_M_past e).2 r (by first | exact fun h => h | (dsimp only; omega))⟩)
  refine z_aload_n dW_927 3 rfl rfl ?_
  refine la_arg (j := 1) dW_928 dW_929 dW_931 dW_932 dW_933 rfl (by omega) hN ?_
  refine la_arg (j := 2) dW_934 dW_935 dW_937 dW_938 dW_939 rfl (by omega) hN ?_
  refine z_callV dW_940 (c_S_past ro_W e1) mv_S_past (zt4 195 (by decide +kernel) rfl) (fun _ _ h => h.1.1) (ro_W 0 _ rfl) rfl rfl ⟨(Nat.le_of_ble_eq_true rfl), (Nat.le_of_ble_eq_true rfl)⟩ ⟨by show cells + 0 ≤ 601024; omega, by show slots + 0 ≤ 7293034; omega⟩ rfl (Nat.le_of_ble_eq_true rfl) (fun r9 μ9 ν9 hq => ?_)
  obtain ⟨rfl, rfl, rfl⟩ := hq
  refine z_aload_n dW_943 2 rfl rfl ?_
  refine la_arg (j := 1) dW_944 dW_945 dW_947 dW_948 dW_949 rfl (by omega) hN ?_
  refine la_arg (j := 2) dW_950 dW_951 dW_953 dW_954 dW_955 rfl (by omega) hN ?_
  refine z_callV (b := 36) dW_956 (c_M_past mo_W e2) mv_M_past (zt7 121 (by decide +kernel) rfl) (fun _ _ h => h.1.1) (mo_W 0 _ rfl) rfl rfl ⟨(Nat.le_of_ble_eq_true rfl), (Nat.le_of_ble_eq_true rfl)⟩ ⟨by show cells + 0 + 0 ≤ 601024; omega, by show slots + 0 + 0 ≤ 7293034; omega⟩ rfl (Nat.le_of_ble_eq_true rfl) (fun r9 μ9 ν9 hq => ?_)
  obtain ⟨rfl, rfl, rfl⟩ := hq
  refine z_icmp_eq (tgt := 1525) dW_959 rfl (fun _ => ?_) (fun hne => absurd rfl hne)
  exact z_wide (by omega) (by omega) (kk _ _ h2)
set_option maxRecDepth 20000 in
theorem arm_near (h : R1 μ ν) (hk : 6 * k + 6 ≤ N) (hN : N ≤ 3072) (hc : cells + 1 ≤ 601024) (hs : slots + 19 ≤ 7293034) (kk : ∀ μ' ν', R1 μ' ν' → ZW l D dA ad b N xs (cells + 1) (slots + 19) 1525 (lw ad b k) [] μ' ν') : ZW l D dA ad b N xs cells slots 964 (lw ad b k) [] μ ν := by
  obtain ⟨r, μ1, ν1, μ2, ν2, e1, e2, h2⟩ := one (sim_near (q := 36) (xs (6 * k + 1))) h (fun out e r hr => ⟨(fr_S_near e).1 r (by first | exact fun h => h | (dsimp only; omega)), (fr_S_near e).2 r (by first | exact fun h => h | (dsimp only; omega))⟩) (fun μ ν out e r hr => ⟨(fr_M_near e).1 r (by first | exact fun h => h | (dsimp only; omega)), (fr_M_near e).2 r (by first | exact fun h => h | (dsimp only; omega))⟩)
  refine z_aload_n dW_964 3 rfl rfl ?_
  refine la_arg (j := 1) dW_965 dW_966 dW_968 dW_969 dW_970 rfl (by omega) hN ?_
  refine z_callV dW_971 (c_S_near ro_W e1) mv_S_near (zt4 203 (by decide +kernel) rfl) (fun _ _ h => h.1.1) (ro_W 0 _ rfl) rfl rfl ⟨(Nat.le_of_ble_eq_true rfl), (Nat.le_of_ble_eq_true rfl)⟩ ⟨by show cells + 0 ≤ 601024; omega, by show slots + 0 ≤ 7293034; omega⟩ rfl (Nat.le_of_ble_eq_true rfl) (fun r9 μ9 ν9 hq => ?_)
  obtain ⟨rfl, rfl, rfl⟩ := hq
  refine z_aload_n dW_974 2 rfl rfl ?_
  refine la_arg (j := 1) dW_975 dW_976 dW_978 dW_979 dW_980 rfl (by omega) hN ?_
  refine z_callV (b := 36) dW_981 (c_M_near mo_W e2) mv_M_near (zt7 125 (by decide +kernel) rfl) (fun _ _ h => h.1.1) (mo_W 0 _ rfl) rfl rfl ⟨(Nat.le_of_ble_eq_true rfl), (Nat.le_of_ble_eq_true rfl)⟩ ⟨by show cells + 0 + 0 ≤ 601024; omega, by show slots + 0 + 0 ≤ 7293034; omega⟩ rfl (Nat.le_of_ble_eq_true rfl) (fun r9 μ9 ν9 hq => ?_)
  obtain ⟨rfl, rfl, rfl⟩ := hq
  refine z_icmp_eq (tgt := 1525) dW_984 rfl (fun _ => ?_) (fun hne => absurd rfl hne)
  exact z_wide (by omega) (by omega) (kk _ _ h2)
set_option maxRecDepth 20000 in
theorem arm_longestAway (h : R1 μ ν) (hk : 6 * k + 6 ≤ N) (hN : N ≤ 3072) (hc : cells + 1 ≤ 601024) (hs : slots + 19 ≤ 7293034) (kk : ∀ μ' ν', R1 μ' ν' → ZW l D dA ad b N xs (cells + 1) (slots + 19) 1525 (lw ad b k) [] μ' ν') : ZW l D dA ad b N xs cells slots 989 (lw ad b k) [] μ ν := by
  obtain ⟨r, μ1, ν1, μ2, ν2, e1, e2, h2⟩ := one (sim_away (q := 36) (xs (6 * k + 1))) h (fun out e r hr => ⟨(fr_S_longestAway e).1 r (by first | exact fun h => h | (dsimp only; omega)), (fr_S_longestAway e).2 r (by first | exact fun h => h | (dsimp only; omega))⟩) (fun μ ν out e r hr => ⟨(fr_M_longestAway e).1 r (by first | exact fun h => h | (dsimp only; omega)), (fr_M_longestAway e).2 r (by first | exact fun h => h | (dsimp only; omega))⟩)
  refine z_aload_n dW_989 3 rfl rfl ?_
  refine la_arg (j := 1) dW_990 dW_991 dW_993 dW_994 dW_995 rfl (by omega) hN ?_
  refine z_callV dW_996 (c_S_longestAway ro_W e1) mv_S_longestAway (zt4 213 (by decide +kernel) rfl) (fun _ _ h => h.1.1) (ro_W 0 _ rfl) rfl rfl ⟨(Nat.le_of_ble_eq_true rfl), (Nat.le_of_ble_eq_true rfl)⟩ ⟨by show cells + 0 ≤ 601024; omega, by show slots + 0 ≤ 7293034; omega⟩ rfl (Nat.le_of_ble_eq_true rfl) (fun r9 μ9 ν9 hq => ?_)
  obtain ⟨rfl, rfl, rfl⟩ := hq
  refine z_aload_n dW_999 2 rfl rfl ?_
  refine la_arg (j := 1) dW_1000 dW_1001 dW_1003 dW_1004 dW_1005 rfl (by omega) hN ?_
  refine z_callV (b := 36) dW_1006 (c_M_longestAway mo_W e2) mv_M_longestAway (zt7 136 (by decide +kernel) rfl) (fun _ _ h => h.1.1) (mo_W 0 _ rfl) rfl rfl ⟨(Nat.le_of_ble_eq_true rfl), (Nat.le_of_ble_eq_true rfl)⟩ ⟨by show cells + 0 + 0 ≤ 601024; omega, by show slots + 0 + 0 ≤ 7293034; omega⟩ rfl (Nat.le_of_ble_eq_true rfl) (fun r9 μ9 ν9 hq => ?_)
  obtain ⟨rfl, rfl, rfl⟩ := hq
  refine z_icmp_eq (tgt := 1525) dW_1009 rfl (fun _ => ?_) (fun hne => absurd rfl hne)
  exact z_wide (by omega) (by omega) (kk _ _ h2)
set_option maxRecDepth 20000 in
theorem arm_ripple (h : R1 μ ν) (hk : 6 * k + 6 ≤ N) (hN : N ≤ 3072) (hc : cells + 1 ≤ 601024) (hs : slots + 19 ≤ 7293034) (kk : ∀ μ' ν', R1 μ' ν' → ZW l D dA ad b N xs (cells + 1) (slots + 19) 1525 (lw ad b k) [] μ' ν') : ZW l D dA ad b N xs cells slots 1014 (lw ad b k) [] μ ν := by
  obtain ⟨r, μ1, ν1, μ2, ν2, e1, e2, h2⟩ := one (sim_ripple (q := 36) (xs (6 * k + 1))) h (fun out e r hr => ⟨(fr_S_ripple e).1 r (by first | exact fun h => h | (dsimp only; omega)), (fr_S_ripple e).2 r (by first | exact fun h => h | (dsimp only; omega))⟩) (fun μ ν out e r hr => ⟨(fr_M_ripple e).1 r (by first | exact fun h => h | (dsimp only; omega)), (fr_M_ripple e).2 r (by first | exact fun h => h | (dsimp only; omega))⟩)
  refine z_aload_n dW_1014 3 rfl rfl ?_
  refine la_arg (j := 1) dW_1015 dW_1016 dW_1018 dW_1019 dW_1020 rfl (by omega) hN ?_
  refine z_callV dW_1021 (c_S_ripple ro_W e1) mv_S_ripple (zt4 218 (by decide +kernel) rfl) (fun _ _ h => h.1.1) (ro_W 0 _ rfl) rfl rfl ⟨(Nat.le_of_ble_eq_true rfl), (Nat.le_of_ble_eq_true rfl)⟩ ⟨by show cells + 0 ≤ 601024; omega, by show slots + 0 ≤ 7293034; omega⟩ rfl (Nat.le_of_ble_eq_true rfl) (fun r9 μ9 ν9 hq => ?_)
  obtain ⟨rfl, rfl, rfl⟩ := hq
  refine z_aload_n dW_1024 2 rfl rfl ?_
  refine la_arg (j := 1) dW_1025 dW_1026 dW_1028 dW_1029 dW_1030 rfl (by omega) hN ?_
  refine z_callV (b := 36) dW_1031 (c_M_ripple mo_W e2) mv_M_ripple (zt7 140 (by decide +kernel) rfl) (fun _ _ h => h.1.1) (mo_W 0 _ rfl) rfl rfl ⟨(Nat.le_of_ble_eq_true rfl), (Nat.le_of_ble_eq_true rfl)⟩ ⟨by show cells + 0 + 0 ≤ 601024; omega, by show slots + 0 + 0 ≤ 7293034; omega⟩ rfl (Nat.le_of_ble_eq_true rfl) (fun r9 μ9 ν9 hq => ?_)
  obtain ⟨rfl, rfl, rfl⟩ := hq
  refine z_icmp_eq (tgt := 1525) dW_1034 rfl (fun _ => ?_) (fun hne => absurd rfl hne)
  exact z_wide (by omega) (by omega) (kk _ _ h2)
set_option maxRecDepth 20000 in
theorem arm_average (h : R1 μ ν) (hk : 6 * k + 6 ≤ N) (hN : N ≤ 3072) (hc : cells + 1 ≤ 601024) (hs : slots + 19 ≤ 7293034) (kk : ∀ μ' ν', R1 μ' ν' → ZW l D dA ad b N xs (cells + 1) (slots + 19) 1525 (lw ad b k) [] μ' ν') : ZW l D dA ad b N xs cells slots 1039 (lw ad b k) [] μ ν := by
  obtain ⟨r, μ1, ν1, μ2, ν2, e1, e2, h2⟩ := one (sim_average (q := 36) (xs (6 * k + 1))) h (fun out e r hr => ⟨(fr_S_average e).1 r (by first | exact fun h => h | (dsimp only; omega)), (fr_S_average e).2 r (by first | exact fun h => h | (dsimp only; omega))⟩) (fun μ ν out e r hr => ⟨(fr_M_average e).1 r (by first | exact fun h => h | (dsimp only; omega)), (fr_M_average e).2 r (by first | exact fun h => h | (dsimp only; omega))⟩)
  refine z_aload_n dW_1039 3 rfl rfl ?_
  refine la_arg (j := 1) dW_1040 dW_1041 dW_1043 dW_1044 dW_1045 rfl (by omega) hN ?_
  refine z_callV dW_1046 (c_S_average ro_W e1) mv_S_average (zt4 223 (by decide +kernel) rfl) (fun _ _ h => h.1.1) (ro_W 0 _ rfl) rfl rfl ⟨(Nat.le_of_ble_eq_true rfl), (Nat.le_of_ble_eq_true rfl)⟩ ⟨by show cells + 0 ≤ 601024; omega, by show slots + 0 ≤ 7293034; omega⟩ rfl (Nat.le_of_ble_eq_true rfl) (fun r9 μ9 ν9 hq => ?_)
  obtain ⟨rfl, rfl, rfl⟩ := hq
  refine z_aload_n dW_1049 2 rfl rfl ?_
  refine la_arg (j := 1) dW_1050 dW_1051 dW_1053 dW_1054 dW_1055 rfl (by omega) hN ?_
  refine z_callV (b := 36) dW_1056 (c_M_average mo_W e2) mv_M_average (zt7 144 (by decide +kernel) rfl) (fun _ _ h => h.1.1) (mo_W 0 _ rfl) rfl rfl ⟨(Nat.le_of_ble_eq_true rfl), (Nat.le_of_ble_eq_true rfl)⟩ ⟨by show cells + 0 + 0 ≤ 601024; omega, by show slots + 0 + 0 ≤ 7293034; omega⟩ rfl (Nat.le_of_ble_eq_true rfl) (fun r9 μ9 ν9 hq => ?_)
  obtain ⟨rfl, rfl, rfl⟩ := hq
  refine z_icmp_eq (tgt := 1525) dW_1059 rfl (fun _ => ?_) (fun hne => absurd rfl hne)
  exact z_wide (by omega) (by omega) (kk _ _ h2)
set_option maxRecDepth 20000 in
theorem arm_worst (h : R1 μ ν) (hk : 6 * k + 6 ≤ N) (hN : N ≤ 3072) (hc : cells + 1 ≤ 601024) (hs : slots + 19 ≤ 7293034) (kk : ∀ μ' ν', R1 μ' ν' → ZW l D dA ad b N xs (cells + 1) (slots + 19) 1525 (lw ad b k) [] μ' ν') : ZW l D dA ad b N xs cells slots 1064 (lw ad b k) [] μ ν := by
  obtain ⟨r, μ1, ν1, μ2, ν2, e1, e2, h2⟩ := one (sim_worst (q := 36) (xs (6 * k + 1))) h (fun out e r hr => ⟨(fr_S_worst e).1 r (by first | exact fun h => h | (dsimp only; omega)), (fr_S_worst e).2 r (by first | exact fun h => h | (dsimp only; omega))⟩) (fun μ ν out e r hr => ⟨(fr_M_worst e).1 r (by first | exact fun h => h | (dsimp only; omega)), (fr_M_worst e).2 r (by first | exact fun h => h | (dsimp only; omega))⟩)
  refine z_aload_n dW_1064 3 rfl rfl ?_
  refine la_arg (j := 1) dW_1065 dW_1066 dW_1068 dW_1069 dW_1070 rfl (by omega) hN ?_
  refine z_callV dW_1071 (c_S_worst ro_W e1) mv_S_worst (zt4 227 (by decide +kernel) rfl) (fun _ _ h => h.1.1) (ro_W 0 _ rfl) rfl rfl ⟨(Nat.le_of_ble_eq_true rfl), (Nat.le_of_ble_eq_true rfl)⟩ ⟨by show cells + 0 ≤ 601024; omega, by show slots + 0 ≤ 7293034; omega⟩ rfl (Nat.le_of_ble_eq_true rfl) (fun r9 μ9 ν9 hq => ?_)
  obtain ⟨rfl, rfl, rfl⟩ := hq
  refine z_aload_n dW_1074 2 rfl rfl ?_
  refine la_arg (j := 1) dW_1075 dW_1076 dW_1078 dW_1079 dW_1080 rfl (by omega) hN ?_
  refine z_callV (b := 36) dW_1081 (c_M_worst mo_W e2) mv_M_worst (zt7 148 (by decide +kernel) rfl) (fun _ _ h => h.1.1) (mo_W 0 _ rfl) rfl rfl ⟨(Nat.le_of_ble_eq_true rfl), (Nat.le_of_ble_eq_true rfl)⟩ ⟨by show cells + 0 + 0 ≤ 601024; omega, by show slots + 0 + 0 ≤ 7293034; omega⟩ rfl (Nat.le_of_ble_eq_true rfl) (fun r9 μ9 ν9 hq => ?_)
  obtain ⟨rfl, rfl, rfl⟩ := hq
  refine z_icmp_eq (tgt := 1525) dW_1084 rfl (fun _ => ?_) (fun hne => absurd rfl hne)
  exact z_wide (by omega) (by omega) (kk _ _ h2)
set_option maxRecDepth 20000 in
theorem arm_comes (h : R1 μ ν) (hk : 6 * k + 6 ≤ N) (hN : N ≤ 3072) (hc : cells + 1 ≤ 601024) (hs : slots + 19 ≤ 7293034) (kk : ∀ μ' ν', R1 μ' ν' → ZW l D dA ad b N xs (cells + 1) (slots + 19) 1525 (lw ad b k) [] μ' ν') : ZW l D dA ad b N xs cells slots 1089 (lw ad b k) [] μ ν := by
  obtain ⟨r, μ1, ν1, μ2, ν2, e1, e2, h2⟩ := one (sim_comes (q := 36) (xs (6 * k + 1)) (xs (6 * k + 2))) h (fun out e r hr => ⟨(fr_S_comes e).1 r (by first | exact fun h => h | (dsimp only; omega)), (fr_S_comes e).2 r (by first | exact fun h => h | (dsimp only; omega))⟩) (fun μ ν out e r hr => ⟨(fr_M_comes e).1 r (by first | exact fun h => h | (dsimp only; omega)), (fr_M_comes e).2 r (by first | exact fun h => h | (dsimp only; omega))⟩)
  refine z_aload_n dW_1089 3 rfl rfl ?_
  refine la_arg (j := 1) dW_1090 dW_1091 dW_1093 dW_1094 dW_1095 rfl (by omega) hN ?_
  refine la_arg (j := 2) dW_1096 dW_1097 dW_1099 dW_1100 dW_1101 rfl (by omega) hN ?_
  refine z_callV dW_1102 (c_S_comes ro_W e1) mv_S_comes (zt4 231 (by decide +kernel) rfl) (fun _ _ h => h.1.1) (ro_W 0 _ rfl) rfl rfl ⟨(Nat.le_of_ble_eq_true rfl), (Nat.le_of_ble_eq_true rfl)⟩ ⟨by show cells + 0 ≤ 601024; omega, by show slots + 0 ≤ 7293034; omega⟩ rfl (Nat.le_of_ble_eq_true rfl) (fun r9 μ9 ν9 hq => ?_)
  obtain ⟨rfl, rfl, rfl⟩ := hq
  refine z_aload_n dW_1105 2 rfl rfl ?_
  refine la_arg (j := 1) dW_1106 dW_1107 dW_1109 dW_1110 dW_1111 rfl (by omega) hN ?_
  refine la_arg (j := 2) dW_1112 dW_1113 dW_1115 dW_1116 dW_1117 rfl (by omega) hN ?_
  refine z_callV (b := 36) dW_1118 (c_M_comes mo_W e2) mv_M_comes (zt7 152 (by decide +kernel) rfl) (fun _ _ h => h.1.1) (mo_W 0 _ rfl) rfl rfl ⟨(Nat.le_of_ble_eq_true rfl), (Nat.le_of_ble_eq_true rfl)⟩ ⟨by show cells + 0 + 0 ≤ 601024; omega, by show slots + 0 + 0 ≤ 7293034; omega⟩ rfl (Nat.le_of_ble_eq_true rfl) (fun r9 μ9 ν9 hq => ?_)
  obtain ⟨rfl, rfl, rfl⟩ := hq
  refine z_icmp_eq (tgt := 1525) dW_1121 rfl (fun _ => ?_) (fun hne => absurd rfl hne)
  exact z_wide (by omega) (by omega) (kk _ _ h2)
set_option maxRecDepth 20000 in
theorem arm_cancel (h : R1 μ ν) (hk : 6 * k + 6 ≤ N) (hN : N ≤ 3072) (hc : cells + 1 ≤ 601024) (hs : slots + 19 ≤ 7293034) (kk : ∀ μ' ν', R1 μ' ν' → ZW l D dA ad b N xs (cells + 1) (slots + 19) 1525 (lw ad b k) [] μ' ν') : ZW l D dA ad b N xs cells slots 1126 (lw ad b k) [] μ ν := by
  obtain ⟨r, μ1, ν1, μ2, ν2, e1, e2, h2⟩ := one (sim_cancel (q := 36) (xs (6 * k + 1))) h (fun out e r hr => ⟨(fr_S_cancel e).1 r (by first | exact fun h => h | (dsimp only; omega)), (fr_S_cancel e).2 r (by first | exact fun h => h | (dsimp only; omega))⟩) (fun μ ν out e r hr => ⟨(fr_M_cancel e).1 r (by first | exact fun h => h | (dsimp only; omega)), (fr_M_cancel e).2 r (by first | exact fun h => h | (dsimp only; omega))⟩)
  refine z_aload_n dW_1126 3 rfl rfl ?_
  refine la_arg (j := 1) dW_1127 dW_1128 dW_1130 dW_1131 dW_1132 rfl (by omega) hN ?_
  refine z_callV dW_1133 (c_S_cancel ro_W e1) mv_S_cancel (zt4 237 (by decide +kernel) rfl) (fun _ _ h => h.1.1) (ro_W 0 _ rfl) rfl rfl ⟨(Nat.le_of_ble_eq_true rfl), (Nat.le_of_ble_eq_true rfl)⟩ ⟨by show cells + 0 ≤ 601024; omega, by show slots + 0 ≤ 7293034; omega⟩ rfl (Nat.le_of_ble_eq_true rfl) (fun r9 μ9 ν9 hq => ?_)
  obtain ⟨rfl, rfl, rfl⟩ := hq
  refine z_aload_n dW_1136 2 rfl rfl ?_
  refine la_arg (j := 1) dW_1137 dW_1138 dW_1140 dW_1141 dW_1142 rfl (by omega) hN ?_
  refine z_callV (b := 36) dW_1143 (c_M_cancel mo_W e2) mv_M_cancel (zt7 156 (by decide +kernel) rfl) (fun _ _ h => h.1.1) (mo_W 0 _ rfl) rfl rfl ⟨(Nat.le_of_ble_eq_true rfl), (Nat.le_of_ble_eq_true rfl)⟩ ⟨by show cells + 0 + 0 ≤ 601024; omega, by show slots + 0 + 0 ≤ 7293034; omega⟩ rfl (Nat.le_of_ble_eq_true rfl) (fun r9 μ9 ν9 hq => ?_)
  obtain ⟨rfl, rfl, rfl⟩ := hq
  refine z_icmp_eq (tgt := 1525) dW_1146 rfl (fun _ => ?_) (fun hne => absurd rfl hne)
  exact z_wide (by omega) (by omega) (kk _ _ h2)
set_option maxRecDepth 20000 in
theorem arm_ifTicks (h : R1 μ ν) (hk : 6 * k + 6 ≤ N) (hN : N ≤ 3072) (hc : cells + 1 ≤ 601024) (hs : slots + 19 ≤ 7293034) (kk : ∀ μ' ν', R1 μ' ν' → ZW l D dA ad b N xs (cells + 1) (slots + 19) 1525 (lw ad b k) [] μ' ν') : ZW l D dA ad b N xs cells slots 1151 (lw ad b k) [] μ ν := by
  obtain ⟨r, μ1, ν1, μ2, ν2, e1, e2, h2⟩ := one (sim_ifTicks (q := 36) (xs (6 * k + 1)) (xs (6 * k + 2))) h (fun out e r hr => ⟨(fr_S_ifTicks e).1 r (by first | exact fun h => h | (dsimp only; omega)), (fr_S_ifTicks e).2 r (by first | exact fun h => h | (dsimp only; omega))⟩) (fun μ ν out e r hr => ⟨(fr_M_ifTicks e).1 r (by first | exact fun h => h | (dsimp only; omega)), (fr_M_ifTicks e).2 r (by first | exact fun h => h | (dsimp only; omega))⟩)
  refine z_aload_n dW_1151 3 rfl rfl ?_
  refine la_arg (j := 1) dW_1152 dW_1153 dW_1155 dW_1156 dW_1157 rfl (by omega) hN ?_
  refine la_arg (j := 2) dW_1158 dW_1159 dW_1161 dW_1162 dW_1163 rfl (by omega) hN ?_
  refine z_callV dW_1164 (c_S_ifTicks ro_W e1) mv_S_ifTicks (zt5 5 (by decide +kernel) rfl) (fun _ _ h => h.1.1) (ro_W 0 _ rfl) rfl rfl ⟨(Nat.le_of_ble_eq_true rfl), (Nat.le_of_ble_eq_true rfl)⟩ ⟨by show cells + 0 ≤ 601024; omega, by show slots + 0 ≤ 7293034; omega⟩ rfl (Nat.le_of_ble_eq_true rfl) (fun r9 μ9 ν9 hq => ?_)
  obtain ⟨rfl, rfl, rfl⟩ := hq
  refine z_aload_n dW_1167 2 rfl rfl ?_
  refine la_arg (j := 1) dW_1168 dW_1169 dW_1171 dW_1172 dW_1173 rfl (by omega) hN ?_
  refine la_arg (j := 2) dW_1174 dW_1175 dW_1177 dW_1178 dW_1179 rfl (by omega) hN ?_
  refine z_callV (b := 36) dW_1180 (c_M_ifTicks mo_W e2) mv_M_ifTicks (zt7 160 (by decide +kernel) rfl) (fun _ _ h => h.1.1) (mo_W 0 _ rfl) rfl rfl ⟨(Nat.le_of_ble_eq_true rfl), (Nat.le_of_ble_eq_true rfl)⟩ ⟨by show cells + 0 + 0 ≤ 601024; omega, by show slots + 0 + 0 ≤ 7293034; omega⟩ rfl (Nat.le_of_ble_eq_true rfl) (fun r9 μ9 ν9 hq => ?_)
  obtain ⟨rfl, rfl, rfl⟩ := hq
  refine z_icmp_eq (tgt := 1525) dW_1183 rfl (fun _ => ?_) (fun hne => absurd rfl hne)
  exact z_wide (by omega) (by omega) (kk _ _ h2)
set_option maxRecDepth 20000 in
theorem arm_firstSeen (h : R1 μ ν) (hk : 6 * k + 6 ≤ N) (hN : N ≤ 3072) (hc : cells + 1 ≤ 601024) (hs : slots + 19 ≤ 7293034) (kk : ∀ μ' ν', R1 μ' ν' → ZW l D dA ad b N xs (cells + 1) (slots + 19) 1525 (lw ad b k) [] μ' ν') : ZW l D dA ad b N xs cells slots 1188 (lw ad b k) [] μ ν := by
  obtain ⟨r, μ1, ν1, μ2, ν2, e1, e2, h2⟩ := one (sim_firstSeen (q := 36) (xs (6 * k + 1))) h (fun out e r hr => ⟨(fr_S_firstSeen e).1 r (by first | exact fun h => h | (dsimp only; omega)), (fr_S_firstSeen e).2 r (by first | exact fun h => h | (dsimp only; omega))⟩) (fun μ ν out e r hr => ⟨(fr_M_firstSeen e).1 r (by first | exact fun h => h | (dsimp only; omega)), (fr_M_firstSeen e).2 r (by first | exact fun h => h | (dsimp only; omega))⟩)
  refine z_aload_n dW_1188 3 rfl rfl ?_
  refine la_arg (j := 1) dW_1189 dW_1190 dW_1192 dW_1193 dW_1194 rfl (by omega) hN ?_
  refine z_callV dW_1195 (c_S_firstSeen ro_W e1) mv_S_firstSeen (zt5 23 (by decide +kernel) rfl) (fun _ _ h => h.1.1) (ro_W 0 _ rfl) rfl rfl ⟨(Nat.le_of_ble_eq_true rfl), (Nat.le_of_ble_eq_true rfl)⟩ ⟨by show cells + 0 ≤ 601024; omega, by show slots + 0 ≤ 7293034; omega⟩ rfl (Nat.le_of_ble_eq_true rfl) (fun r9 μ9 ν9 hq => ?_)
  obtain ⟨rfl, rfl, rfl⟩ := hq
  refine z_aload_n dW_1198 2 rfl rfl ?_
  refine la_arg (j := 1) dW_1199 dW_1200 dW_1202 dW_1203 dW_1204 rfl (by omega) hN ?_
  refine z_callV (b := 36) dW_1205 (c_M_firstSeen mo_W e2) mv_M_firstSeen (zt7 180 (by decide +kernel) rfl) (fun _ _ h => h.1.1) (mo_W 0 _ rfl) rfl rfl ⟨(Nat.le_of_ble_eq_true rfl), (Nat.le_of_ble_eq_true rfl)⟩ ⟨by show cells + 0 + 0 ≤ 601024; omega, by show slots + 0 + 0 ≤ 7293034; omega⟩ rfl (Nat.le_of_ble_eq_true rfl) (fun r9 μ9 ν9 hq => ?_)
  obtain ⟨rfl, rfl, rfl⟩ := hq
  refine z_icmp_eq (tgt := 1525) dW_1208 rfl (fun _ => ?_) (fun hne => absurd rfl hne)
  exact z_wide (by omega) (by omega) (kk _ _ h2)
set_option maxRecDepth 20000 in
theorem arm_firstFloat (h : R1 μ ν) (hk : 6 * k + 6 ≤ N) (hN : N ≤ 3072) (hc : cells + 1 ≤ 601024) (hs : slots + 19 ≤ 7293034) (kk : ∀ μ' ν', R1 μ' ν' → ZW l D dA ad b N xs (cells + 1) (slots + 19) 1525 (lw ad b k) [] μ' ν') : ZW l D dA ad b N xs cells slots 1213 (lw ad b k) [] μ ν := by
  obtain ⟨r, μ1, ν1, μ2, ν2, e1, e2, h2⟩ := one (sim_firstFloat (q := 36) (xs (6 * k + 1))) h (fun out e r hr => ⟨(fr_S_firstFloat e).1 r (by first | exact fun h => h | (dsimp only; omega)), (fr_S_firstFloat e).2 r (by first | exact fun h => h | (dsimp only; omega))⟩) (fun μ ν out e r hr => ⟨(fr_M_firstFloat e).1 r (by first | exact fun h => h | (dsimp only; omega)), (fr_M_firstFloat e).2 r (by first | exact fun h => h | (dsimp only; omega))⟩)
  refine z_aload_n dW_1213 3 rfl rfl ?_
  refine la_arg (j := 1) dW_1214 dW_1215 dW_1217 dW_1218 dW_1219 rfl (by omega) hN ?_
  refine z_callV dW_1220 (c_S_firstFloat ro_W e1) mv_S_firstFloat (zt5 35 (by decide +kernel) rfl) (fun _ _ h => h.1.1) (ro_W 0 _ rfl) rfl rfl ⟨(Nat.le_of_ble_eq_true rfl), (Nat.le_of_ble_eq_true rfl)⟩ ⟨by show cells + 0 ≤ 601024; omega, by show slots + 0 ≤ 7293034; omega⟩ rfl (Nat.le_of_ble_eq_true rfl) (fun r9 μ9 ν9 hq => ?_)
  obtain ⟨rfl, rfl, rfl⟩ := hq
  refine z_aload_n dW_1223 2 rfl rfl ?_
  refine la_arg (j := 1) dW_1224 dW_1225 dW_1227 dW_1228 dW_1229 rfl (by omega) hN ?_
  refine z_callV (b := 36) dW_1230 (c_M_firstFloat mo_W e2) mv_M_firstFloat (zt7 188 (by decide +kernel) rfl) (fun _ _ h => h.1.1) (mo_W 0 _ rfl) rfl rfl ⟨(Nat.le_of_ble_eq_true rfl), (Nat.le_of_ble_eq_true rfl)⟩ ⟨by show cells + 0 + 0 ≤ 601024; omega, by show slots + 0 + 0 ≤ 7293034; omega⟩ rfl (Nat.le_of_ble_eq_true rfl) (fun r9 μ9 ν9 hq => ?_)
  obtain ⟨rfl, rfl, rfl⟩ := hq
  refine z_icmp_eq (tgt := 1525) dW_1233 rfl (fun _ => ?_) (fun hne => absurd rfl hne)
  exact z_wide (by omega) (by omega) (kk _ _ h2)
set_option maxRecDepth 20000 in
theorem arm_leastPush (h : R1 μ ν) (hk : 6 * k + 6 ≤ N) (hN : N ≤ 3072) (hc : cells + 1 ≤ 601024) (hs : slots + 19 ≤ 7293034) (kk : ∀ μ' ν', R1 μ' ν' → ZW l D dA ad b N xs (cells + 1) (slots + 19) 1525 (lw ad b k) [] μ' ν') : ZW l D dA ad b N xs cells slots 1238 (lw ad b k) [] μ ν := by
  obtain ⟨r, μ1, ν1, μ2, ν2, e1, e2, h2⟩ := one (sim_leastPush (q := 36) (xs (6 * k + 1))) h (fun out e r hr => ⟨(fr_S_leastPush e).1 r (by first | exact fun h => h | (dsimp only; omega)), (fr_S_leastPush e).2 r (by first | exact fun h => h | (dsimp only; omega))⟩) (fun μ ν out e r hr => ⟨(fr_M_leastPush e).1 r (by first | exact fun h => h | (dsimp only; omega)), (fr_M_leastPush e).2 r (by first | exact fun h => h | (dsimp only; omega))⟩)
  refine z_aload_n dW_1238 3 rfl rfl ?_
  refine la_arg (j := 1) dW_1239 dW_1240 dW_1242 dW_1243 dW_1244 rfl (by omega) hN ?_
  refine z_callV dW_1245 (c_S_leastPush ro_W e1) mv_S_leastPush (zt5 39 (by decide +kernel) rfl) (fun _ _ h => h.1.1) (ro_W 0 _ rfl) rfl rfl ⟨(Nat.le_of_ble_eq_true rfl), (Nat.le_of_ble_eq_true rfl)⟩ ⟨by show cells + 0 ≤ 601024; omega, by show slots + 0 ≤ 7293034; omega⟩ rfl (Nat.le_of_ble_eq_true rfl) (fun r9 μ9 ν9 hq => ?_)
  obtain ⟨rfl, rfl, rfl⟩ := hq
  refine z_aload_n dW_1248 2 rfl rfl ?_
  refine la_arg (j := 1) dW_1249 dW_1250 dW_1252 dW_1253 dW_1254 rfl (by omega) hN ?_
  refine z_callV (b := 36) dW_1255 (c_M_leastPush mo_W e2) mv_M_leastPush (zt7 196 (by decide +kernel) rfl) (fun _ _ h => h.1.1) (mo_W 0 _ rfl) rfl rfl ⟨(Nat.le_of_ble_eq_true rfl), (Nat.le_of_ble_eq_true rfl)⟩ ⟨by show cells + 0 + 0 ≤ 601024; omega, by show slots + 0 + 0 ≤ 7293034; omega⟩ rfl (Nat.le_of_ble_eq_true rfl) (fun r9 μ9 ν9 hq => ?_)
  obtain ⟨rfl, rfl, rfl⟩ := hq
  refine z_icmp_eq (tgt := 1525) dW_1258 rfl (fun _ => ?_) (fun hne => absurd rfl hne)
  exact z_wide (by omega) (by omega) (kk _ _ h2)
set_option maxRecDepth 20000 in
theorem arm_bestStep (h : R1 μ ν) (hk : 6 * k + 6 ≤ N) (hN : N ≤ 3072) (hc : cells + 1 ≤ 601024) (hs : slots + 19 ≤ 7293034) (kk : ∀ μ' ν', R1 μ' ν' → ZW l D dA ad b N xs (cells + 1) (slots + 19) 1525 (lw ad b k) [] μ' ν') : ZW l D dA ad b N xs cells slots 1263 (lw ad b k) [] μ ν := by
  obtain ⟨r, μ1, ν1, μ2, ν2, e1, e2, h2⟩ := one (sim_bestStep (q := 36) (xs (6 * k + 1))) h (fun out e r hr => ⟨(fr_S_bestStep e).1 r (by first | exact fun h => h | (dsimp only; omega)), (fr_S_bestStep e).2 r (by first | exact fun h => h | (dsimp only; omega))⟩) (fun μ ν out e r hr => ⟨(fr_M_bestStep e).1 r (by first | exact fun h => h | (dsimp only; omega)), (fr_M_bestStep e).2 r (by first | exact fun h => h | (dsimp only; omega))⟩)
  refine z_aload_n dW_1263 3 rfl rfl ?_
  refine la_arg (j := 1) dW_1264 dW_1265 dW_1267 dW_1268 dW_1269 rfl (by omega) hN ?_
  refine z_callV dW_1270 (c_S_bestStep ro_W e1) mv_S_bestStep (zt5 49 (by decide +kernel) rfl) (fun _ _ h => h.1.1) (ro_W 0 _ rfl) rfl rfl ⟨(Nat.le_of_ble_eq_true rfl), (Nat.le_of_ble_eq_true rfl)⟩ ⟨by show cells + 0 ≤ 601024; omega, by show slots + 0 ≤ 7293034; omega⟩ rfl (Nat.le_of_ble_eq_true rfl) (fun r9 μ9 ν9 hq => ?_)
  obtain ⟨rfl, rfl, rfl⟩ := hq
  refine z_aload_n dW_1273 2 rfl rfl ?_
  refine la_arg (j := 1) dW_1274 dW_1275 dW_1277 dW_1278 dW_1279 rfl (by omega) hN ?_
  refine z_callV (b := 36) dW_1280 (c_M_bestStep mo_W e2) mv_M_bestStep (zt7 215 (by decide +kernel) rfl) (fun _ _ h => h.1.1) (mo_W 0 _ rfl) rfl rfl ⟨(Nat.le_of_ble_eq_true rfl), (Nat.le_of_ble_eq_true rfl)⟩ ⟨by show cells + 0 + 0 ≤ 601024; omega, by show slots + 0 + 0 ≤ 7293034; omega⟩ rfl (Nat.le_of_ble_eq_true rfl) (fun r9 μ9 ν9 hq => ?_)
  obtain ⟨rfl, rfl, rfl⟩ := hq
  refine z_icmp_eq (tgt := 1525) dW_1283 rfl (fun _ => ?_) (fun hne => absurd rfl hne)
  exact z_wide (by omega) (by omega) (kk _ _ h2)
set_option maxRecDepth 20000 in
theorem arm_bestWay (h : R1 μ ν) (hk : 6 * k + 6 ≤ N) (hN : N ≤ 3072) (hc : cells + 1 ≤ 601024) (hs : slots + 19 ≤ 7293034) (kk : ∀ μ' ν', R1 μ' ν' → ZW l D dA ad b N xs (cells + 1) (slots + 19) 1525 (lw ad b k) [] μ' ν') : ZW l D dA ad b N xs cells slots 1288 (lw ad b k) [] μ ν := by
  obtain ⟨r, μ1, ν1, μ2, ν2, e1, e2, h2⟩ := one (sim_bestWay (q := 36) (xs (6 * k + 1))) h (fun out e r hr => ⟨(fr_S_bestWay e).1 r (by first | exact fun h => h | (dsimp only; omega)), (fr_S_bestWay e).2 r (by first | exact fun h => h | (dsimp only; omega))⟩) (fun μ ν out e r hr => ⟨(fr_M_bestWay e).1 r (by first | exact fun h => h | (dsimp only; omega)), (fr_M_bestWay e).2 r (by first | exact fun h => h | (dsimp only; omega))⟩)
  refine z_aload_n dW_1288 3 rfl rfl ?_
  refine la_arg (j := 1) dW_1289 dW_1290 dW_1292 dW_1293 dW_1294 rfl (by omega) hN ?_
  refine z_callV dW_1295 (c_S_bestWay ro_W e1) mv_S_bestWay (zt5 53 (by decide +kernel) rfl) (fun _ _ h => h.1.1) (ro_W 0 _ rfl) rfl rfl ⟨(Nat.le_of_ble_eq_true rfl), (Nat.le_of_ble_eq_true rfl)⟩ ⟨by show cells + 0 ≤ 601024; omega, by show slots + 0 ≤ 7293034; omega⟩ rfl (Nat.le_of_ble_eq_true rfl) (fun r9 μ9 ν9 hq => ?_)
  obtain ⟨rfl, rfl, rfl⟩ := hq
  refine z_aload_n dW_1298 2 rfl rfl ?_
  refine la_arg (j := 1) dW_1299 dW_1300 dW_1302 dW_1303 dW_1304 rfl (by omega) hN ?_
  refine z_callV (b := 36) dW_1305 (c_M_bestWay mo_W e2) mv_M_bestWay (zt7 227 (by decide +kernel) rfl) (fun _ _ h => h.1.1) (mo_W 0 _ rfl) rfl rfl ⟨(Nat.le_of_ble_eq_true rfl), (Nat.le_of_ble_eq_true rfl)⟩ ⟨by show cells + 0 + 0 ≤ 601024; omega, by show slots + 0 + 0 ≤ 7293034; omega⟩ rfl (Nat.le_of_ble_eq_true rfl) (fun r9 μ9 ν9 hq => ?_)
  obtain ⟨rfl, rfl, rfl⟩ := hq
  refine z_icmp_eq (tgt := 1525) dW_1308 rfl (fun _ => ?_) (fun hne => absurd rfl hne)
  exact z_wide (by omega) (by omega) (kk _ _ h2)
set_option maxRecDepth 20000 in
theorem arm_bestShare (h : R1 μ ν) (hk : 6 * k + 6 ≤ N) (hN : N ≤ 3072) (hc : cells + 1 ≤ 601024) (hs : slots + 19 ≤ 7293034) (kk : ∀ μ' ν', R1 μ' ν' → ZW l D dA ad b N xs (cells + 1) (slots + 19) 1525 (lw ad b k) [] μ' ν') : ZW l D dA ad b N xs cells slots 1313 (lw ad b k) [] μ ν := by
  obtain ⟨r, μ1, ν1, μ2, ν2, e1, e2, h2⟩ := one (Sim_bestShare (q := 36) ) h (fun out e r hr => ⟨(fr_S_bestShare e).1 r (by first | exact fun h => h | (dsimp only; omega)), (fr_S_bestShare e).2 r (by first | exact fun h => h | (dsimp only; omega))⟩) (fun μ ν out e r hr => ⟨(fr_M_bestShare e).1 r (by first | exact fun h => h | (dsimp only; omega)), (fr_M_bestShare e).2 r (by first | exact fun h => h | (dsimp only; omega))⟩)
  refine z_aload_n dW_1313 3 rfl rfl ?_
  refine z_callV dW_1314 (c_S_bestShare ro_W e1) mv_S_bestShare (zt5 57 (by decide +kernel) rfl) (fun _ _ h => h.1.1) (ro_W 0 _ rfl) rfl rfl ⟨(Nat.le_of_ble_eq_true rfl), (Nat.le_of_ble_eq_true rfl)⟩ ⟨by show cells + 0 ≤ 601024; omega, by show slots + 0 ≤ 7293034; omega⟩ rfl (Nat.le_of_ble_eq_true rfl) (fun r9 μ9 ν9 hq => ?_)
  obtain ⟨rfl, rfl, rfl⟩ := hq
  refine z_aload_n dW_1317 2 rfl rfl ?_
  refine z_callV (b := 36) dW_1318 (c_M_bestShare mo_W e2) mv_M_bestShare (zt7 108 (by decide +kernel) rfl) (fun _ _ h => h.1.1) (mo_W 0 _ rfl) rfl rfl ⟨(Nat.le_of_ble_eq_true rfl), (Nat.le_of_ble_eq_true rfl)⟩ ⟨by show cells + 0 + 0 ≤ 601024; omega, by show slots + 0 + 0 ≤ 7293034; omega⟩ rfl (Nat.le_of_ble_eq_true rfl) (fun r9 μ9 ν9 hq => ?_)
  obtain ⟨rfl, rfl, rfl⟩ := hq
  refine z_icmp_eq (tgt := 1525) dW_1321 rfl (fun _ => ?_) (fun hne => absurd rfl hne)
  exact z_wide (by omega) (by omega) (kk _ _ h2)
set_option maxRecDepth 20000 in
theorem arm_slope (h : R1 μ ν) (hk : 6 * k + 6 ≤ N) (hN : N ≤ 3072) (hc : cells + 1 ≤ 601024) (hs : slots + 19 ≤ 7293034) (kk : ∀ μ' ν', R1 μ' ν' → ZW l D dA ad b N xs (cells + 1) (slots + 19) 1525 (lw ad b k) [] μ' ν') : ZW l D dA ad b N xs cells slots 1326 (lw ad b k) [] μ ν := by
  obtain ⟨r, μ1, ν1, μ2, ν2, e1, e2, h2⟩ := one (Sim_slope (q := 36) (xs (6 * k + 1))) h (fun out e r hr => ⟨(fr_S_slope e).1 r (by first | exact fun h => h | (dsimp only; omega)), (fr_S_slope e).2 r (by first | exact fun h => h | (dsimp only; omega))⟩) (fun μ ν out e r hr => ⟨(fr_M_slope e).1 r (by first | exact fun h => h | (dsimp only; omega)), (fr_M_slope e).2 r (by first | exact fun h => h | (dsimp only; omega))⟩)
  refine z_aload_n dW_1326 3 rfl rfl ?_
  refine la_arg (j := 1) dW_1327 dW_1328 dW_1330 dW_1331 dW_1332 rfl (by omega) hN ?_
  refine z_callV dW_1333 (c_S_slope ro_W e1) mv_S_slope (zt5 62 (by decide +kernel) rfl) (fun _ _ h => h.1.1) (ro_W 0 _ rfl) rfl rfl ⟨(Nat.le_of_ble_eq_true rfl), (Nat.le_of_ble_eq_true rfl)⟩ ⟨by show cells + 0 ≤ 601024; omega, by show slots + 0 ≤ 7293034; omega⟩ rfl (Nat.le_of_ble_eq_true rfl) (fun r9 μ9 ν9 hq => ?_)
  obtain ⟨rfl, rfl, rfl⟩ := hq
  refine z_aload_n dW_1336 2 rfl rfl ?_
  refine la_arg (j := 1) dW_1337 dW_1338 dW_1340 dW_1341 dW_1342 rfl (by omega) hN ?_
  refine z_callV (b := 36) dW_1343 (c_M_slope mo_W e2) mv_M_slope (zt7 62 (by decide +kernel) rfl) (fun _ _ h => h.1.1) (mo_W 0 _ rfl) rfl rfl ⟨(Nat.le_of_ble_eq_true rfl), (Nat.le_of_ble_eq_true rfl)⟩ ⟨by show cells + 0 + 0 ≤ 601024; omega, by show slots + 0 + 0 ≤ 7293034; omega⟩ rfl (Nat.le_of_ble_eq_true rfl) (fun r9 μ9 ν9 hq => ?_)
  obtain ⟨rfl, rfl, rfl⟩ := hq
  refine z_icmp_eq (tgt := 1525) dW_1346 rfl (fun _ => ?_) (fun hne => absurd rfl hne)
  exact z_wide (by omega) (by omega) (kk _ _ h2)
set_option maxRecDepth 20000 in
theorem arm_firstFull (h : R1 μ ν) (hk : 6 * k + 6 ≤ N) (hN : N ≤ 3072) (hc : cells + 1 ≤ 601024) (hs : slots + 19 ≤ 7293034) (kk : ∀ μ' ν', R1 μ' ν' → ZW l D dA ad b N xs (cells + 1) (slots + 19) 1525 (lw ad b k) [] μ' ν') : ZW l D dA ad b N xs cells slots 1351 (lw ad b k) [] μ ν := by
  obtain ⟨r, μ1, ν1, μ2, ν2, e1, e2, h2⟩ := one (sim_firstFull (q := 36) (xs (6 * k + 1))) h (fun out e r hr => ⟨(fr_S_firstFull e).1 r (by first | exact fun h => h | (dsimp only; omega)), (fr_S_firstFull e).2 r (by first | exact fun h => h | (dsimp only; omega))⟩) (fun μ ν out e r hr => ⟨(fr_M_firstFull e).1 r (by first | exact fun h => h | (dsimp only; omega)), (fr_M_firstFull e).2 r (by first | exact fun h => h | (dsimp only; omega))⟩)
  refine z_aload_n dW_1351 3 rfl rfl ?_
  refine la_arg (j := 1) dW_1352 dW_1353 dW_1355 dW_1356 dW_1357 rfl (by omega) hN ?_
  refine z_callV dW_1358 (c_S_firstFull ro_W e1) mv_S_firstFull (zt5 67 (by decide +kernel) rfl) (fun _ _ h => h.1.1) (ro_W 0 _ rfl) rfl rfl ⟨(Nat.le_of_ble_eq_true rfl), (Nat.le_of_ble_eq_true rfl)⟩ ⟨by show cells + 0 ≤ 601024; omega, by show slots + 0 ≤ 7293034; omega⟩ rfl (Nat.le_of_ble_eq_true rfl) (fun r9 μ9 ν9 hq => ?_)
  obtain ⟨rfl, rfl, rfl⟩ := hq
  refine z_aload_n dW_1361 2 rfl rfl ?_
  refine la_arg (j := 1) dW_1362 dW_1363 dW_1365 dW_1366 dW_1367 rfl (by omega) hN ?_
  refine z_callV (b := 36) dW_1368 (c_M_firstFull mo_W e2) mv_M_firstFull (zt7 192 (by decide +kernel) rfl) (fun _ _ h => h.1.1) (mo_W 0 _ rfl) rfl rfl ⟨(Nat.le_of_ble_eq_true rfl), (Nat.le_of_ble_eq_true rfl)⟩ ⟨by show cells + 0 + 0 ≤ 601024; omega, by show slots + 0 + 0 ≤ 7293034; omega⟩ rfl (Nat.le_of_ble_eq_true rfl) (fun r9 μ9 ν9 hq => ?_)
  obtain ⟨rfl, rfl, rfl⟩ := hq
  refine z_icmp_eq (tgt := 1525) dW_1371 rfl (fun _ => ?_) (fun hne => absurd rfl hne)
  exact z_wide (by omega) (by omega) (kk _ _ h2)
set_option maxRecDepth 20000 in
theorem arm_seenBy (h : R1 μ ν) (hk : 6 * k + 6 ≤ N) (hN : N ≤ 3072) (hc : cells + 1 ≤ 601024) (hs : slots + 19 ≤ 7293034) (kk : ∀ μ' ν', R1 μ' ν' → ZW l D dA ad b N xs (cells + 1) (slots + 19) 1525 (lw ad b k) [] μ' ν') : ZW l D dA ad b N xs cells slots 1376 (lw ad b k) [] μ ν := by
  obtain ⟨r, μ1, ν1, μ2, ν2, e1, e2, h2⟩ := one (sim_seenBy (q := 36) (xs (6 * k + 1)) (xs (6 * k + 2))) h (fun out e r hr => ⟨(fr_S_seenBy e).1 r (by first | exact fun h => h | (dsimp only; omega)), (fr_S_seenBy e).2 r (by first | exact fun h => h | (dsimp only; omega))⟩) (fun μ ν out e r hr => ⟨(fr_M_seenBy e).1 r (by first | exact fun h => h | (dsimp only; omega)), (fr_M_seenBy e).2 r (by first | exact fun h => h | (dsimp only; omega))⟩)
  refine z_aload_n dW_1376 3 rfl rfl ?_
  refine la_arg (j := 1) dW_1377 dW_1378 dW_1380 dW_1381 dW_1382 rfl (by omega) hN ?_
  refine la_arg (j := 2) dW_1383 dW_1384 dW_1386 dW_1387 dW_1388 rfl (by omega) hN ?_
  refine z_callV dW_1389 (c_S_seenBy ro_W e1) mv_S_seenBy (zt5 71 (by decide +kernel) rfl) (fun _ _ h => h.1.1) (ro_W 0 _ rfl) rfl rfl ⟨(Nat.le_of_ble_eq_true rfl), (Nat.le_of_ble_eq_true rfl)⟩ ⟨by show cells + 0 ≤ 601024; omega, by show slots + 0 ≤ 7293034; omega⟩ rfl (Nat.le_of_ble_eq_true rfl) (fun r9 μ9 ν9 hq => ?_)
  obtain ⟨rfl, rfl, rfl⟩ := hq
  refine z_aload_n dW_1392 2 rfl rfl ?_
  refine la_arg (j := 1) dW_1393 dW_1394 dW_1396 dW_1397 dW_1398 rfl (by omega) hN ?_
  refine la_arg (j := 2) dW_1399 dW_1400 dW_1402 dW_1403 dW_1404 rfl (by omega) hN ?_
  refine z_callV (b := 36) dW_1405 (c_M_seenBy mo_W e2) mv_M_seenBy (zt7 207 (by decide +kernel) rfl) (fun _ _ h => h.1.1) (mo_W 0 _ rfl) rfl rfl ⟨(Nat.le_of_ble_eq_true rfl), (Nat.le_of_ble_eq_true rfl)⟩ ⟨by show cells + 0 + 0 ≤ 601024; omega, by show slots + 0 + 0 ≤ 7293034; omega⟩ rfl (Nat.le_of_ble_eq_true rfl) (fun r9 μ9 ν9 hq => ?_)
  obtain ⟨rfl, rfl, rfl⟩ := hq
  refine z_icmp_eq (tgt := 1525) dW_1408 rfl (fun _ => ?_) (fun hne => absurd rfl hne)
  exact z_wide (by omega) (by omega) (kk _ _ h2)
set_option maxRecDepth 20000 in
theorem arm_blind (h : R1 μ ν) (hk : 6 * k + 6 ≤ N) (hN : N ≤ 3072) (hc : cells + 1 ≤ 601024) (hs : slots + 19 ≤ 7293034) (kk : ∀ μ' ν', R1 μ' ν' → ZW l D dA ad b N xs (cells + 1) (slots + 19) 1525 (lw ad b k) [] μ' ν') : ZW l D dA ad b N xs cells slots 1413 (lw ad b k) [] μ ν := by
  obtain ⟨r, μ1, ν1, μ2, ν2, e1, e2, h2⟩ := one (sim_blind (q := 36) (xs (6 * k + 1))) h (fun out e r hr => ⟨(fr_S_blind e).1 r (by first | exact fun h => h | (dsimp only; omega)), (fr_S_blind e).2 r (by first | exact fun h => h | (dsimp only; omega))⟩) (fun μ ν out e r hr => ⟨(fr_M_blind e).1 r (by first | exact fun h => h | (dsimp only; omega)), (fr_M_blind e).2 r (by first | exact fun h => h | (dsimp only; omega))⟩)
  refine z_aload_n dW_1413 3 rfl rfl ?_
  refine la_arg (j := 1) dW_1414 dW_1415 dW_1417 dW_1418 dW_1419 rfl (by omega) hN ?_
  refine z_callV dW_1420 (c_S_blind ro_W e1) mv_S_blind (zt5 75 (by decide +kernel) rfl) (fun _ _ h => h.1.1) (ro_W 0 _ rfl) rfl rfl ⟨(Nat.le_of_ble_eq_true rfl), (Nat.le_of_ble_eq_true rfl)⟩ ⟨by show cells + 0 ≤ 601024; omega, by show slots + 0 ≤ 7293034; omega⟩ rfl (Nat.le_of_ble_eq_true rfl) (fun r9 μ9 ν9 hq => ?_)
  obtain ⟨rfl, rfl, rfl⟩ := hq
  refine z_aload_n dW_1423 2 rfl rfl ?_
  refine la_arg (j := 1) dW_1424 dW_1425 dW_1427 dW_1428 dW_1429 rfl (by omega) hN ?_
  refine z_callV (b := 36) dW_1430 (c_M_blind mo_W e2) mv_M_blind (zt7 211 (by decide +kernel) rfl) (fun _ _ h => h.1.1) (mo_W 0 _ rfl) rfl rfl ⟨(Nat.le_of_ble_eq_true rfl), (Nat.le_of_ble_eq_true rfl)⟩ ⟨by show cells + 0 + 0 ≤ 601024; omega, by show slots + 0 + 0 ≤ 7293034; omega⟩ rfl (Nat.le_of_ble_eq_true rfl) (fun r9 μ9 ν9 hq => ?_)
  obtain ⟨rfl, rfl, rfl⟩ := hq
  refine z_icmp_eq (tgt := 1525) dW_1433 rfl (fun _ => ?_) (fun hne => absurd rfl hne)
  exact z_wide (by omega) (by omega) (kk _ _ h2)
set_option maxRecDepth 20000 in
theorem arm_bestGap (h : R1 μ ν) (hk : 6 * k + 6 ≤ N) (hN : N ≤ 3072) (hc : cells + 1 ≤ 601024) (hs : slots + 19 ≤ 7293034) (kk : ∀ μ' ν', R1 μ' ν' → ZW l D dA ad b N xs (cells + 1) (slots + 19) 1525 (lw ad b k) [] μ' ν') : ZW l D dA ad b N xs cells slots 1438 (lw ad b k) [] μ ν := by
  obtain ⟨r, μ1, ν1, μ2, ν2, e1, e2, h2⟩ := one (sim_bestGap (q := 36) (xs (6 * k + 1))) h (fun out e r hr => ⟨(fr_S_bestGap e).1 r (by first | exact fun h => h | (dsimp only; omega)), (fr_S_bestGap e).2 r (by first | exact fun h => h | (dsimp only; omega))⟩) (fun μ ν out e r hr => ⟨(fr_M_bestGap e).1 r (by first | exact fun h => h | (dsimp only; omega)), (fr_M_bestGap e).2 r (by first | exact fun h => h | (dsimp only; omega))⟩)
  refine z_aload_n dW_1438 3 rfl rfl ?_
  refine la_arg (j := 1) dW_1439 dW_1440 dW_1442 dW_1443 dW_1444 rfl (by omega) hN ?_
  refine z_callV dW_1445 (c_S_bestGap ro_W e1) mv_S_bestGap (zt5 79 (by decide +kernel) rfl) (fun _ _ h => h.1.1) (ro_W 0 _ rfl) rfl rfl ⟨(Nat.le_of_ble_eq_true rfl), (Nat.le_of_ble_eq_true rfl)⟩ ⟨by show cells + 0 ≤ 601024; omega, by show slots + 0 ≤ 7293034; omega⟩ rfl (Nat.le_of_ble_eq_true rfl) (fun r9 μ9 ν9 hq => ?_)
  obtain ⟨rfl, rfl, rfl⟩ := hq
  refine z_aload_n dW_1448 2 rfl rfl ?_
  refine la_arg (j := 1) dW_1449 dW_1450 dW_1452 dW_1453 dW_1454 rfl (by omega) hN ?_
  refine z_callV (b := 36) dW_1455 (c_M_bestGap mo_W e2) mv_M_bestGap (zt7 223 (by decide +kernel) rfl) (fun _ _ h => h.1.1) (mo_W 0 _ rfl) rfl rfl ⟨(Nat.le_of_ble_eq_true rfl), (Nat.le_of_ble_eq_true rfl)⟩ ⟨by show cells + 0 + 0 ≤ 601024; omega, by show slots + 0 + 0 ≤ 7293034; omega⟩ rfl (Nat.le_of_ble_eq_true rfl) (fun r9 μ9 ν9 hq => ?_)
  obtain ⟨rfl, rfl, rfl⟩ := hq
  refine z_icmp_eq (tgt := 1525) dW_1458 rfl (fun _ => ?_) (fun hne => absurd rfl hne)
  exact z_wide (by omega) (by omega) (kk _ _ h2)
set_option maxRecDepth 20000 in
theorem arm_ifNear (h : R1 μ ν) (hk : 6 * k + 6 ≤ N) (hN : N ≤ 3072) (hc : cells + 1 ≤ 601024) (hs : slots + 19 ≤ 7293034) (kk : ∀ μ' ν', R1 μ' ν' → ZW l D dA ad b N xs (cells + 1) (slots + 19) 1525 (lw ad b k) [] μ' ν') : ZW l D dA ad b N xs cells slots 1463 (lw ad b k) [] μ ν := by
  obtain ⟨r, μ1, ν1, μ2, ν2, e1, e2, h2⟩ := one (sim_ifNear (q := 36) (xs (6 * k + 1)) (xs (6 * k + 2))) h (fun out e r hr => ⟨(fr_S_ifNear e).1 r (by first | exact fun h => h | (dsimp only; omega)), (fr_S_ifNear e).2 r (by first | exact fun h => h | (dsimp only; omega))⟩) (fun μ ν out e r hr => ⟨(fr_M_ifNear e).1 r (by first | exact fun h => h | (dsimp only; omega)), (fr_M_ifNear e).2 r (by first | exact fun h => h | (dsimp only; omega))⟩)
  refine z_aload_n dW_1463 3 rfl rfl ?_
  refine la_arg (j := 1) dW_1464 dW_1465 dW_1467 dW_1468 dW_1469 rfl (by omega) hN ?_
  refine la_arg (j := 2) dW_1470 dW_1471 dW_1473 dW_1474 dW_1475 rfl (by omega) hN ?_
  refine z_callV dW_1476 (c_S_ifNear ro_W e1) mv_S_ifNear (zt5 83 (by decide +kernel) rfl) (fun _ _ h => h.1.1) (ro_W 0 _ rfl) rfl rfl ⟨(Nat.le_of_ble_eq_true rfl), (Nat.le_of_ble_eq_true rfl)⟩ ⟨by show cells + 0 ≤ 601024; omega, by show slots + 0 ≤ 7293034; omega⟩ rfl (Nat.le_of_ble_eq_true rfl) (fun r9 μ9 ν9 hq => ?_)
  obtain ⟨rfl, rfl, rfl⟩ := hq
  refine z_aload_n dW_1479 2 rfl rfl ?_
  refine la_arg (j := 1) dW_1480 dW_1481 dW_1483 dW_1484 dW_1485 rfl (by omega) hN ?_
  refine la_arg (j := 2) dW_1486 dW_1487 dW_1489 dW_1490 dW_1491 rfl (by omega) hN ?_
  refine z_callV (b := 36) dW_1492 (c_M_ifNear mo_W e2) mv_M_ifNear (zt7 231 (by decide +kernel) rfl) (fun _ _ h => h.1.1) (mo_W 0 _ rfl) rfl rfl ⟨(Nat.le_of_ble_eq_true rfl), (Nat.le_of_ble_eq_true rfl)⟩ ⟨by show cells + 0 + 0 ≤ 601024; omega, by show slots + 0 + 0 ≤ 7293034; omega⟩ rfl (Nat.le_of_ble_eq_true rfl) (fun r9 μ9 ν9 hq => ?_)
  obtain ⟨rfl, rfl, rfl⟩ := hq
  refine z_icmp_eq (tgt := 1525) dW_1495 rfl (fun _ => ?_) (fun hne => absurd rfl hne)
  exact z_wide (by omega) (by omega) (kk _ _ h2)
set_option maxRecDepth 20000 in
theorem arm_count (h : R1 μ ν) (hk : 6 * k + 6 ≤ N) (hN : N ≤ 3072) (hc : cells + 1 ≤ 601024) (hs : slots + 19 ≤ 7293034) (kk : ∀ μ' ν', R1 μ' ν' → ZW l D dA ad b N xs (cells + 1) (slots + 19) 1525 (lw ad b k) [] μ' ν') : ZW l D dA ad b N xs cells slots 1500 (lw ad b k) [] μ ν := by
  obtain ⟨r, μ1, ν1, μ2, ν2, e1, e2, h2⟩ := one (sim_count (q := 36) (xs (6 * k + 1))) h (fun out e r hr => ⟨(fr_S_count e).1 r (by first | exact fun h => h | (dsimp only; omega)), (fr_S_count e).2 r (by first | exact fun h => h | (dsimp only; omega))⟩) (fun μ ν out e r hr => ⟨(fr_M_count e).1 r (by first | exact fun h => h | (dsimp only; omega)), (fr_M_count e).2 r (by first | exact fun h => h | (dsimp only; omega))⟩)
  refine z_aload_n dW_1500 3 rfl rfl ?_
  refine la_arg (j := 1) dW_1501 dW_1502 dW_1504 dW_1505 dW_1506 rfl (by omega) hN ?_
  refine z_callV dW_1507 (c_S_count ro_W e1) mv_S_count (zt5 87 (by decide +kernel) rfl) (fun _ _ h => h.1.1) (ro_W 0 _ rfl) rfl rfl ⟨(Nat.le_of_ble_eq_true rfl), (Nat.le_of_ble_eq_true rfl)⟩ ⟨by show cells + 0 ≤ 601024; omega, by show slots + 0 ≤ 7293034; omega⟩ rfl (Nat.le_of_ble_eq_true rfl) (fun r9 μ9 ν9 hq => ?_)
  obtain ⟨rfl, rfl, rfl⟩ := hq
  refine z_aload_n dW_1510 2 rfl rfl ?_
  refine la_arg (j := 1) dW_1511 dW_1512 dW_1514 dW_1515 dW_1516 rfl (by omega) hN ?_
  refine z_callV (b := 36) dW_1517 (c_M_count mo_W e2) mv_M_count (zt7 235 (by decide +kernel) rfl) (fun _ _ h => h.1.1) (mo_W 0 _ rfl) rfl rfl ⟨(Nat.le_of_ble_eq_true rfl), (Nat.le_of_ble_eq_true rfl)⟩ ⟨by show cells + 0 + 0 ≤ 601024; omega, by show slots + 0 + 0 ≤ 7293034; omega⟩ rfl (Nat.le_of_ble_eq_true rfl) (fun r9 μ9 ν9 hq => ?_)
  obtain ⟨rfl, rfl, rfl⟩ := hq
  refine z_icmp_eq (tgt := 1525) dW_1520 rfl (fun _ => ?_) (fun hne => absurd rfl hne)
  exact z_wide (by omega) (by omega) (kk _ _ h2)
end ARMS
