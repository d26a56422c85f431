/-! ===== the law's turns (laid by gen_law.py) ===== -/
section LT
variable {D : bm_D} {b t a L n : Nat} {xs : Nat → Int32} {p : Program} {l : Launch} {e : Env} {s : State} {m : MethodId} {args : Array Value} {below : List Frame} {meth : Method} {c : Code} {H : Heap} {locs : List Loc} {cells slots : Nat} {Q : State → Prop} {ls : Array Slot} {w : bm_W} {i : Int}
set_option maxHeartbeats 8000000 in
set_option maxRecDepth 100000 in
theorem lt_fun (C : lz_C D p l s m args c a L xs) (hH : bm_HR D s.heap.size w H) (hS : va_S (bm_A s.heap.size) s.heap H locs) (hJ : lJ b t n w) (hK : lt_K b t w) (hl : lv_has ls 9 (lz_lo a b t i)) (hi : 0 ≤ i) (hL : i.toNat + 6 ≤ L) (hf : cells + n + 420 ≤ 601024) (hg : slots + 3 * n + 8100 ≤ 7293034) (kk : lz_K D p l e s m args below meth c a b t n i cells slots Q) : W p l e room_1 s m args below meth c H locs cells slots Q (F0 m 378 ls []) := by
  have hX := C.1
  have hx := hX.1.1
  have hb := hX.1.2.1
  obtain ⟨B, pr, nI, Dt, ev, hJ0⟩ := hJ
  have hL15 : n ≤ 1500 := hJ0.1.2.2.1
  refine lv_aload_n hx hb dL_law_378 rfl (lv_at hl 4 rfl) ?_
  refine lz_ld (k := 1) C hS (lv_at hl 5 rfl) (lv_at hl 0 rfl) hi hL (by decide) dL_law_379 dL_law_380 dL_law_382 dL_law_383 dL_law_384 ?_
  refine lz_ld (k := 2) C hS (lv_at hl 5 rfl) (lv_at hl 0 rfl) hi hL (by decide) dL_law_385 dL_law_386 dL_law_388 dL_law_389 dL_law_390 ?_
  refine lv_aload_n hx hb dL_law_391 rfl (lv_at hl 2 rfl) ?_
  refine W.eq (g2 := F0 m 392 ls ((([bm_r (some b), bm_i (lz_v xs i 1), bm_i (lz_v xs i 2), bm_r (some (t + 154))] : List bm_V).reverse ++ []).map (bm_val D))) rfl ?_
  have hcl := lz_F1 (κ := 1) (fun E2 => la_fun (d := 0) (E2 := E2) (x := (lz_v xs i 1)) (what := (lz_v xs i 2)) hJ0) (by decide +kernel) (by decide)
  refine lz_callH (as := [bm_r (some b), bm_i (lz_v xs i 1), bm_i (lz_v xs i 2), bm_r (some (t + 154))]) (rest := []) (mc := 340) (ms := 1100) hX dL_law_392 lo_fun wL_1030 (lh_fun (d := 1300) l hX.2.2.2.2.2.2.2 hK.2.2.2.2.2.2.2 (bm_InSt.cons (v := bm_i (lz_v xs i 1)) (lz_vin xs i 1) (bm_InSt.cons (v := bm_i (lz_v xs i 2)) (lz_vin xs i 2) bm_InSt_nil)) hcl (lh_H_of hK (Or.inl ⟨rfl, rfl⟩))) rfl hH hS hl.1 (Nat.le_of_ble_eq_true rfl) ⟨by show cells + 340 ≤ 601024; omega, by show slots + 1100 ≤ 7293034; omega⟩ (fun v w2 hG H2 locs2 hH2 hS2 hin2 => ?_)
  obtain ⟨k, hk0, hk2, hv, hK2, hmc⟩ := lt_of hK (Or.inl rfl) (by decide) (by decide +kernel) hG
  cases hv
  refine W.eq (g2 := F0 m 395 ls [.int (Int32.ofInt k)]) rfl ?_
  refine lv_istore (lv' := (6, .int (Int32.ofInt k)) :: lz_lo a b t i) hx hb dL_law_395 hl (by decide) rfl (fun ls1 hl1 => ?_)
  refine lv_aload_n hx hb dL_law_397 rfl (lv_at hl1 4 rfl) ?_
  refine lz_ld (k := 1) C hS2 (lv_at hl1 6 rfl) (lv_at hl1 1 rfl) hi hL (by decide) dL_law_398 dL_law_399 dL_law_401 dL_law_402 dL_law_403 ?_
  refine lz_ld (k := 2) C hS2 (lv_at hl1 6 rfl) (lv_at hl1 1 rfl) hi hL (by decide) dL_law_404 dL_law_405 dL_law_407 dL_law_408 dL_law_409 ?_
  refine W.eq (g2 := F0 m 410 ls1 ((([bm_i (lz_v xs i 1), bm_i (lz_v xs i 2)] : List bm_V).reverse ++ bm_r (some (t + 122)) :: []).map (bm_val D))) rfl ?_
  refine lz_callV (as := [bm_i (lz_v xs i 1), bm_i (lz_v xs i 2)]) (rest := []) (mc := 50) (ms := 6920) hX dL_law_410 bm_cw_241 bm_cl_12 wL_1668 wL_1669 wL_1670 hK2.2.2.2.2.2.2.1 rfl (bm_InSt.cons (v := bm_i (lz_v xs i 1)) (lz_vin xs i 1) (bm_InSt.cons (v := bm_i (lz_v xs i 2)) (lz_vin xs i 2) bm_InSt_nil)) (lz_lift hmc) (fun r w' q => q.1.1.1.2.1) hH2 hS2 hl1.1 (Nat.le_of_ble_eq_true rfl) ⟨by show cells + 340 + 50 ≤ 601024; omega, by show slots + 1100 + 6920 ≤ 7293034; omega⟩ (fun v3 w3 hq H3 locs3 hH3 hS3 hin3 => ?_) (fun E w3 hq => by obtain ⟨⟨-, u, hu, -⟩, -⟩ := hq; cases hu)
  obtain ⟨⟨hR, u, hu, hout, hthr, n3, hn3, hJ3⟩, ht3⟩ := hq
  obtain ⟨x3, rfl⟩ := bm_typ1 ht3
  cases hu
  have hK3 := hK2.E hR.1
  have hgl := hR.2 (t + 154) (by omega) (by omega) 0
  have hxi := hin3 _ rfl
  refine W.eq (g2 := F0 m 413 ls1 [.int (Int32.ofInt x3)]) rfl ?_
  refine lv_istore (lv' := (7, .int (Int32.ofInt x3)) :: (6, .int (Int32.ofInt k)) :: lz_lo a b t i) hx hb dL_law_413 hl1 (by decide) rfl (fun ls2 hl2 => ?_)
  refine lv_aload_n hx hb dL_law_415 rfl (lv_at hl2 5 rfl) ?_
  refine W.eq (g2 := F0 m 416 ls2 ((([] : List bm_V).reverse ++ bm_r (some (t + 122)) :: []).map (bm_val D))) rfl ?_
  refine lz_callV (as := []) (rest := []) (mc := 0) (ms := 0) hX dL_law_416 bm_cw_164 bm_cl_12 wL_1310 wL_1311 wL_1312 hK3.2.2.2.2.2.2.1 rfl bm_InSt_nil (lt_thr hK3 hthr) (fun r w' q => lt_thB q) hH3 hS3 hl2.1 (Nat.le_of_ble_eq_true rfl) ⟨by show cells + 340 + 50 + 0 ≤ 601024; omega, by show slots + 1100 + 6920 + 0 ≤ 7293034; omega⟩ (fun v4 w4 hq H4 locs4 hH4 hS4 _ => ?_) (fun E w4 hq => by cases hq.1)
  obtain ⟨hv4, rfl⟩ := hq
  cases hv4
  refine W.eq (g2 := F0 m 419 ls2 [.int (Int32.ofInt k)]) rfl ?_
  refine lv_iload hx hb dL_law_419 (lv_at hl2 1 rfl) ?_
  refine lv_icmp_eq (tgt := 426) hx hb dL_law_421 rfl (fun _ => ?_) (fun h => absurd rfl h)
  refine lv_iload hx hb dL_law_426 (lv_at hl2 1 rfl) ?_
  refine lv_if_ne (tgt := 443) hx hb dL_law_428 rfl (fun hne => ?_) (fun heq => ?_)
  · refine lv_goto (tgt := 1361) hx hb dL_law_443 rfl ?_
    exact kk H4 locs4 ls2 _ n3 _ _ hH4 hS4 hJ3 hK3 (lv_sub hl2 [2, 3, 4, 5, 6, 7] rfl) (by omega) (by omega)
  · have hk : k = 0 := (lz_k0 hk0 hk2).mp heq
    refine lv_aload_n hx hb dL_law_431 rfl (lv_at hl2 4 rfl) ?_
    refine lv_iconst (v := Int32.ofInt 0) hx hb dL_law_432 rfl ?_
    refine lz_lald hX hK3.2.2.1 hK3.2.2.2.1 dL_law_433 hH4 ?_
    rw [hgl, hout hk]
    refine lv_iload hx hb dL_law_434 (lv_at hl2 0 rfl) ?_
    refine lv_i2l (v := Int64.ofInt x3) hx hb dL_law_436 (lz_i2l hxi) ?_
    show W p l e room_1 s m args below meth c H4 locs4 _ _ Q (F0 m _ ls2 [.long (Int64.ofInt x3), .long (Int64.ofInt x3)])
    refine W.lcmp hx hb dL_law_437 ?_
    refine W.eq (g2 := F0 m 438 ls2 [.int 0]) (by rw [lz_cmp0]) ?_
    refine lv_if_eq (tgt := 443) hx hb dL_law_438 rfl (fun _ => ?_) (fun h => absurd rfl h)
    refine lv_goto (tgt := 1361) hx hb dL_law_443 rfl ?_
    exact kk H4 locs4 ls2 _ n3 _ _ hH4 hS4 hJ3 hK3 (lv_sub hl2 [2, 3, 4, 5, 6, 7] rfl) (by omega) (by omega)
set_option maxHeartbeats 8000000 in
set_option maxRecDepth 100000 in
theorem lt_call (C : lz_C D p l s m args c a L xs) (hH : bm_HR D s.heap.size w H) (hS : va_S (bm_A s.heap.size) s.heap H locs) (hJ : lJ b t n w) (hK : lt_K b t w) (hl : lv_has ls 9 (lz_lo a b t i)) (hi : 0 ≤ i) (hL : i.toNat + 6 ≤ L) (hf : cells + n + 420 ≤ 601024) (hg : slots + 3 * n + 8100 ≤ 7293034) (kk : lz_K D p l e s m args below meth c a b t n i cells slots Q) : W p l e room_1 s m args below meth c H locs cells slots Q (F0 m 446 ls []) := by
  have hX := C.1
  have hx := hX.1.1
  have hb := hX.1.2.1
  obtain ⟨B, pr, nI, Dt, ev, hJ0⟩ := hJ
  have hL15 : n ≤ 1500 := hJ0.1.2.2.1
  refine lv_aload_n hx hb dL_law_446 rfl (lv_at hl 4 rfl) ?_
  refine lz_ld (k := 1) C hS (lv_at hl 5 rfl) (lv_at hl 0 rfl) hi hL (by decide) dL_law_447 dL_law_448 dL_law_450 dL_law_451 dL_law_452 ?_
  refine lz_ld (k := 2) C hS (lv_at hl 5 rfl) (lv_at hl 0 rfl) hi hL (by decide) dL_law_453 dL_law_454 dL_law_456 dL_law_457 dL_law_458 ?_
  refine lz_ld (k := 3) C hS (lv_at hl 5 rfl) (lv_at hl 0 rfl) hi hL (by decide) dL_law_459 dL_law_460 dL_law_462 dL_law_463 dL_law_464 ?_
  refine lz_ld (k := 4) C hS (lv_at hl 5 rfl) (lv_at hl 0 rfl) hi hL (by decide) dL_law_465 dL_law_466 dL_law_468 dL_law_469 dL_law_470 ?_
  refine lv_aload_n hx hb dL_law_471 rfl (lv_at hl 2 rfl) ?_
  refine W.eq (g2 := F0 m 472 ls ((([bm_r (some b), bm_i (lz_v xs i 1), bm_i (lz_v xs i 2), bm_i (lz_v xs i 3), bm_i (lz_v xs i 4), bm_r (some (t + 154))] : List bm_V).reverse ++ []).map (bm_val D))) rfl ?_
  have hcl := lz_F2 (κ := 3) (la_call (d := 0) (f := (lz_v xs i 1)) (x := (lz_v xs i 2)) (y := (lz_v xs i 3)) (z := (lz_v xs i 4)) hJ0) (by decide +kernel)
  refine lz_callH (as := [bm_r (some b), bm_i (lz_v xs i 1), bm_i (lz_v xs i 2), bm_i (lz_v xs i 3), bm_i (lz_v xs i 4), bm_r (some (t + 154))]) (rest := []) (mc := 340) (ms := 1100) hX dL_law_472 lo_call wL_1034 (lh_call (d := 1300) l hX.2.2.2.2.2.2.2 hK.2.2.2.2.2.2.2 (bm_InSt.cons (v := bm_i (lz_v xs i 1)) (lz_vin xs i 1) (bm_InSt.cons (v := bm_i (lz_v xs i 2)) (lz_vin xs i 2) (bm_InSt.cons (v := bm_i (lz_v xs i 3)) (lz_vin xs i 3) (bm_InSt.cons (v := bm_i (lz_v xs i 4)) (lz_vin xs i 4) bm_InSt_nil)))) hcl (lh_H_of hK (Or.inl ⟨rfl, rfl⟩))) rfl hH hS hl.1 (Nat.le_of_ble_eq_true rfl) ⟨by show cells + 340 ≤ 601024; omega, by show slots + 1100 ≤ 7293034; omega⟩ (fun v w2 hG H2 locs2 hH2 hS2 hin2 => ?_)
  obtain ⟨k, hk0, hk2, hv, hK2, hmc⟩ := lt_of hK (Or.inl rfl) (by decide) (by decide +kernel) hG
  cases hv
  refine W.eq (g2 := F0 m 475 ls [.int (Int32.ofInt k)]) rfl ?_
  refine lv_istore (lv' := (6, .int (Int32.ofInt k)) :: lz_lo a b t i) hx hb dL_law_475 hl (by decide) rfl (fun ls1 hl1 => ?_)
  refine lv_aload_n hx hb dL_law_477 rfl (lv_at hl1 4 rfl) ?_
  refine lz_ld (k := 1) C hS2 (lv_at hl1 6 rfl) (lv_at hl1 1 rfl) hi hL (by decide) dL_law_478 dL_law_479 dL_law_481 dL_law_482 dL_law_483 ?_
  refine lz_ld (k := 2) C hS2 (lv_at hl1 6 rfl) (lv_at hl1 1 rfl) hi hL (by decide) dL_law_484 dL_law_485 dL_law_487 dL_law_488 dL_law_489 ?_
  refine lz_ld (k := 3) C hS2 (lv_at hl1 6 rfl) (lv_at hl1 1 rfl) hi hL (by decide) dL_law_490 dL_law_491 dL_law_493 dL_law_494 dL_law_495 ?_
  refine lz_ld (k := 4) C hS2 (lv_at hl1 6 rfl) (lv_at hl1 1 rfl) hi hL (by decide) dL_law_496 dL_law_497 dL_law_499 dL_law_500 dL_law_501 ?_
  refine W.eq (g2 := F0 m 502 ls1 ((([bm_i (lz_v xs i 1), bm_i (lz_v xs i 2), bm_i (lz_v xs i 3), bm_i (lz_v xs i 4)] : List bm_V).reverse ++ bm_r (some (t + 122)) :: []).map (bm_val D))) rfl ?_
  refine lz_callV (as := [bm_i (lz_v xs i 1), bm_i (lz_v xs i 2), bm_i (lz_v xs i 3), bm_i (lz_v xs i 4)]) (rest := []) (mc := 50) (ms := 6920) hX dL_law_502 bm_cw_242 bm_cl_12 wL_1715 wL_1716 wL_1717 hK2.2.2.2.2.2.2.1 rfl (bm_InSt.cons (v := bm_i (lz_v xs i 1)) (lz_vin xs i 1) (bm_InSt.cons (v := bm_i (lz_v xs i 2)) (lz_vin xs i 2) (bm_InSt.cons (v := bm_i (lz_v xs i 3)) (lz_vin xs i 3) (bm_InSt.cons (v := bm_i (lz_v xs i 4)) (lz_vin xs i 4) bm_InSt_nil)))) (lz_lift hmc) (fun r w' q => q.1.1.1.2.1) hH2 hS2 hl1.1 (Nat.le_of_ble_eq_true rfl) ⟨by show cells + 340 + 50 ≤ 601024; omega, by show slots + 1100 + 6920 ≤ 7293034; omega⟩ (fun v3 w3 hq H3 locs3 hH3 hS3 hin3 => ?_) (fun E w3 hq => by obtain ⟨⟨-, u, hu, -⟩, -⟩ := hq; cases hu)
  obtain ⟨⟨hR, u, hu, hout, hthr, n3, hn3, hJ3⟩, ht3⟩ := hq
  obtain ⟨x3, rfl⟩ := bm_typ3 ht3
  cases hu
  have hK3 := hK2.E hR.1
  have hgl := hR.2 (t + 154) (by omega) (by omega) 0
  have hxi := hin3 _ rfl
  refine W.eq (g2 := F0 m 505 ls1 [.long (Int64.ofInt x3)]) rfl ?_
  refine lv_lstore (lv' := (7, .long (Int64.ofInt x3)) :: (6, .int (Int32.ofInt k)) :: lz_lo a b t i) hx hb dL_law_505 hl1 (by decide) rfl (fun ls2 hl2 => ?_)
  refine lv_aload_n hx hb dL_law_507 rfl (lv_at hl2 5 rfl) ?_
  refine W.eq (g2 := F0 m 508 ls2 ((([] : List bm_V).reverse ++ bm_r (some (t + 122)) :: []).map (bm_val D))) rfl ?_
  refine lz_callV (as := []) (rest := []) (mc := 0) (ms := 0) hX dL_law_508 bm_cw_164 bm_cl_12 wL_1310 wL_1311 wL_1312 hK3.2.2.2.2.2.2.1 rfl bm_InSt_nil (lt_thr hK3 hthr) (fun r w' q => lt_thB q) hH3 hS3 hl2.1 (Nat.le_of_ble_eq_true rfl) ⟨by show cells + 340 + 50 + 0 ≤ 601024; omega, by show slots + 1100 + 6920 + 0 ≤ 7293034; omega⟩ (fun v4 w4 hq H4 locs4 hH4 hS4 _ => ?_) (fun E w4 hq => by cases hq.1)
  obtain ⟨hv4, rfl⟩ := hq
  cases hv4
  refine W.eq (g2 := F0 m 511 ls2 [.int (Int32.ofInt k)]) rfl ?_
  refine lv_iload hx hb dL_law_511 (lv_at hl2 1 rfl) ?_
  refine lv_icmp_eq (tgt := 518) hx hb dL_law_513 rfl (fun _ => ?_) (fun h => absurd rfl h)
  refine lv_iload hx hb dL_law_518 (lv_at hl2 1 rfl) ?_
  refine lv_if_ne (tgt := 534) hx hb dL_law_520 rfl (fun hne => ?_) (fun heq => ?_)
  · refine lv_goto (tgt := 1361) hx hb dL_law_534 rfl ?_
    exact kk H4 locs4 ls2 _ n3 _ _ hH4 hS4 hJ3 hK3 (lv_sub hl2 [2, 3, 4, 5, 6, 7] rfl) (by omega) (by omega)
  · have hk : k = 0 := (lz_k0 hk0 hk2).mp heq
    refine lv_aload_n hx hb dL_law_523 rfl (lv_at hl2 4 rfl) ?_
    refine lv_iconst (v := Int32.ofInt 0) hx hb dL_law_524 rfl ?_
    refine lz_lald hX hK3.2.2.1 hK3.2.2.2.1 dL_law_525 hH4 ?_
    rw [hgl, hout hk]
    refine lv_lload hx hb dL_law_526 (lv_at hl2 0 rfl) ?_
    show W p l e room_1 s m args below meth c H4 locs4 _ _ Q (F0 m _ ls2 [.long (Int64.ofInt x3), .long (Int64.ofInt x3)])
    refine W.lcmp hx hb dL_law_528 ?_
    refine W.eq (g2 := F0 m 529 ls2 [.int 0]) (by rw [lz_cmp0]) ?_
    refine lv_if_eq (tgt := 534) hx hb dL_law_529 rfl (fun _ => ?_) (fun h => absurd rfl h)
    refine lv_goto (tgt := 1361) hx hb dL_law_534 rfl ?_
    exact kk H4 locs4 ls2 _ n3 _ _ hH4 hS4 hJ3 hK3 (lv_sub hl2 [2, 3, 4, 5, 6, 7] rfl) (by omega) (by omega)
set_option maxHeartbeats 8000000 in
set_option maxRecDepth 100000 in
theorem lt_callChanged (C : lz_C D p l s m args c a L xs) (hH : bm_HR D s.heap.size w H) (hS : va_S (bm_A s.heap.size) s.heap H locs) (hJ : lJ b t n w) (hK : lt_K b t w) (hl : lv_has ls 9 (lz_lo a b t i)) (hi : 0 ≤ i) (hL : i.toNat + 6 ≤ L) (hf : cells + n + 420 ≤ 601024) (hg : slots + 3 * n + 8100 ≤ 7293034) (kk : lz_K D p l e s m args below meth c a b t n i cells slots Q) : W p l e room_1 s m args below meth c H locs cells slots Q (F0 m 537 ls []) := by
  have hX := C.1
  have hx := hX.1.1
  have hb := hX.1.2.1
  obtain ⟨B, pr, nI, Dt, ev, hJ0⟩ := hJ
  have hL15 : n ≤ 1500 := hJ0.1.2.2.1
  refine lv_aload_n hx hb dL_law_537 rfl (lv_at hl 4 rfl) ?_
  refine lz_ld (k := 1) C hS (lv_at hl 5 rfl) (lv_at hl 0 rfl) hi hL (by decide) dL_law_538 dL_law_539 dL_law_541 dL_law_542 dL_law_543 ?_
  refine lz_ld (k := 2) C hS (lv_at hl 5 rfl) (lv_at hl 0 rfl) hi hL (by decide) dL_law_544 dL_law_545 dL_law_547 dL_law_548 dL_law_549 ?_
  refine lz_ld (k := 3) C hS (lv_at hl 5 rfl) (lv_at hl 0 rfl) hi hL (by decide) dL_law_550 dL_law_551 dL_law_553 dL_law_554 dL_law_555 ?_
  refine lz_ld (k := 4) C hS (lv_at hl 5 rfl) (lv_at hl 0 rfl) hi hL (by decide) dL_law_556 dL_law_557 dL_law_559 dL_law_560 dL_law_561 ?_
  refine lz_ld (k := 5) C hS (lv_at hl 5 rfl) (lv_at hl 0 rfl) hi hL (by decide) dL_law_562 dL_law_563 dL_law_565 dL_law_566 dL_law_567 ?_
  refine lv_aload_n hx hb dL_law_568 rfl (lv_at hl 2 rfl) ?_
  refine W.eq (g2 := F0 m 569 ls ((([bm_r (some b), bm_i (lz_v xs i 1), bm_i (lz_v xs i 2), bm_i (lz_v xs i 3), bm_i (lz_v xs i 4), bm_i (lz_v xs i 5), bm_r (some (t + 154))] : List bm_V).reverse ++ []).map (bm_val D))) rfl ?_
  have hcl := lz_F2 (κ := 3) (la_callChanged (d := 0) (f := (lz_v xs i 1)) (pl := (lz_v xs i 2)) (x := (lz_v xs i 3)) (y := (lz_v xs i 4)) (z := (lz_v xs i 5)) hJ0) (by decide +kernel)
  refine lz_callH (as := [bm_r (some b), bm_i (lz_v xs i 1), bm_i (lz_v xs i 2), bm_i (lz_v xs i 3), bm_i (lz_v xs i 4), bm_i (lz_v xs i 5), bm_r (some (t + 154))]) (rest := []) (mc := 340) (ms := 1100) hX dL_law_569 lo_callChanged wL_1047 (lh_callChanged (d := 1300) l hX.2.2.2.2.2.2.2 hK.2.2.2.2.2.2.2 (bm_InSt.cons (v := bm_i (lz_v xs i 1)) (lz_vin xs i 1) (bm_InSt.cons (v := bm_i (lz_v xs i 2)) (lz_vin xs i 2) (bm_InSt.cons (v := bm_i (lz_v xs i 3)) (lz_vin xs i 3) (bm_InSt.cons (v := bm_i (lz_v xs i 4)) (lz_vin xs i 4) (bm_InSt.cons (v := bm_i (lz_v xs i 5)) (lz_vin xs i 5) bm_InSt_nil))))) hcl (lh_H_of hK (Or.inl ⟨rfl, rfl⟩))) rfl hH hS hl.1 (Nat.le_of_ble_eq_true rfl) ⟨by show cells + 340 ≤ 601024; omega, by show slots + 1100 ≤ 7293034; omega⟩ (fun v w2 hG H2 locs2 hH2 hS2 hin2 => ?_)
  obtain ⟨k, hk0, hk2, hv, hK2, hmc⟩ := lt_of hK (Or.inl rfl) (by decide) (by decide +kernel) hG
  cases hv
  refine W.eq (g2 := F0 m 572 ls [.int (Int32.ofInt k)]) rfl ?_
  refine lv_istore (lv' := (6, .int (Int32.ofInt k)) :: lz_lo a b t i) hx hb dL_law_572 hl (by decide) rfl (fun ls1 hl1 => ?_)
  refine lv_aload_n hx hb dL_law_574 rfl (lv_at hl1 4 rfl) ?_
  refine lz_ld (k := 1) C hS2 (lv_at hl1 6 rfl) (lv_at hl1 1 rfl) hi hL (by decide) dL_law_575 dL_law_576 dL_law_578 dL_law_579 dL_law_580 ?_
  refine lz_ld (k := 2) C hS2 (lv_at hl1 6 rfl) (lv_at hl1 1 rfl) hi hL (by decide) dL_law_581 dL_law_582 dL_law_584 dL_law_585 dL_law_586 ?_
  refine lz_ld (k := 3) C hS2 (lv_at hl1 6 rfl) (lv_at hl1 1 rfl) hi hL (by decide) dL_law_587 dL_law_588 dL_law_590 dL_law_591 dL_law_592 ?_
  refine lz_ld (k := 4) C hS2 (lv_at hl1 6 rfl) (lv_at hl1 1 rfl) hi hL (by decide) dL_law_593 dL_law_594 dL_law_596 dL_law_597 dL_law_598 ?_
  refine lz_ld (k := 5) C hS2 (lv_at hl1 6 rfl) (lv_at hl1 1 rfl) hi hL (by decide) dL_law_599 dL_law_600 dL_law_602 dL_law_603 dL_law_604 ?_
  refine W.eq (g2 := F0 m 605 ls1 ((([bm_i (lz_v xs i 1), bm_i (lz_v xs i 2), bm_i (lz_v xs i 3), bm_i (lz_v xs i 4), bm_i (lz_v xs i 5)] : List bm_V).reverse ++ bm_r (some (t + 122)) :: []).map (bm_val D))) rfl ?_
  refine lz_callV (as := [bm_i (lz_v xs i 1), bm_i (lz_v xs i 2), bm_i (lz_v xs i 3), bm_i (lz_v xs i 4), bm_i (lz_v xs i 5)]) (rest := []) (mc := 50) (ms := 6920) hX dL_law_605 bm_cw_243 bm_cl_12 wL_1748 wL_1749 wL_1750 hK2.2.2.2.2.2.2.1 rfl (bm_InSt.cons (v := bm_i (lz_v xs i 1)) (lz_vin xs i 1) (bm_InSt.cons (v := bm_i (lz_v xs i 2)) (lz_vin xs i 2) (bm_InSt.cons (v := bm_i (lz_v xs i 3)) (lz_vin xs i 3) (bm_InSt.cons (v := bm_i (lz_v xs i 4)) (lz_vin xs i 4) (bm_InSt.cons (v := bm_i (lz_v xs i 5)) (lz_vin xs i 5) bm_InSt_nil))))) (lz_lift hmc) (fun r w' q => q.1.1.1.2.1) hH2 hS2 hl1.1 (Nat.le_of_ble_eq_true rfl) ⟨by show cells + 340 + 50 ≤ 601024; omega, by show slots + 1100 + 6920 ≤ 7293034; omega⟩ (fun v3 w3 hq H3 locs3 hH3 hS3 hin3 => ?_) (fun E w3 hq => by obtain ⟨⟨-, u, hu, -⟩, -⟩ := hq; cases hu)
  obtain ⟨⟨hR, u, hu, hout, hthr, n3, hn3, hJ3⟩, ht3⟩ := hq
  obtain ⟨x3, rfl⟩ := bm_typ3 ht3
  cases hu
  have hK3 := hK2.E hR.1
  have hgl := hR.2 (t + 154) (by omega) (by omega) 0
  have hxi := hin3 _ rfl
  refine W.eq (g2 := F0 m 608 ls1 [.long (Int64.ofInt x3)]) rfl ?_
  refine lv_lstore (lv' := (7, .long (Int64.ofInt x3)) :: (6, .int (Int32.ofInt k)) :: lz_lo a b t i) hx hb dL_law_608 hl1 (by decide) rfl (fun ls2 hl2 => ?_)
  refine lv_aload_n hx hb dL_law_610 rfl (lv_at hl2 5 rfl) ?_
  refine W.eq (g2 := F0 m 611 ls2 ((([] : List bm_V).reverse ++ bm_r (some (t + 122)) :: []).map (bm_val D))) rfl ?_
  refine lz_callV (as := []) (rest := []) (mc := 0) (ms := 0) hX dL_law_611 bm_cw_164 bm_cl_12 wL_1310 wL_1311 wL_1312 hK3.2.2.2.2.2.2.1 rfl bm_InSt_nil (lt_thr hK3 hthr) (fun r w' q => lt_thB q) hH3 hS3 hl2.1 (Nat.le_of_ble_eq_true rfl) ⟨by show cells + 340 + 50 + 0 ≤ 601024; omega, by show slots + 1100 + 6920 + 0 ≤ 7293034; omega⟩ (fun v4 w4 hq H4 locs4 hH4 hS4 _ => ?_) (fun E w4 hq => by cases hq.1)
  obtain ⟨hv4, rfl⟩ := hq
  cases hv4
  refine W.eq (g2 := F0 m 614 ls2 [.int (Int32.ofInt k)]) rfl ?_
  refine lv_iload hx hb dL_law_614 (lv_at hl2 1 rfl) ?_
  refine lv_icmp_eq (tgt := 621) hx hb dL_law_616 rfl (fun _ => ?_) (fun h => absurd rfl h)
  refine lv_iload hx hb dL_law_621 (lv_at hl2 1 rfl) ?_
  refine lv_if_ne (tgt := 637) hx hb dL_law_623 rfl (fun hne => ?_) (fun heq => ?_)
  · refine lv_goto (tgt := 1361) hx hb dL_law_637 rfl ?_
    exact kk H4 locs4 ls2 _ n3 _ _ hH4 hS4 hJ3 hK3 (lv_sub hl2 [2, 3, 4, 5, 6, 7] rfl) (by omega) (by omega)
  · have hk : k = 0 := (lz_k0 hk0 hk2).mp heq
    refine lv_aload_n hx hb dL_law_626 rfl (lv_at hl2 4 rfl) ?_
    refine lv_iconst (v := Int32.ofInt 0) hx hb dL_law_627 rfl ?_
    refine lz_lald hX hK3.2.2.1 hK3.2.2.2.1 dL_law_628 hH4 ?_
    rw [hgl, hout hk]
    refine lv_lload hx hb dL_law_629 (lv_at hl2 0 rfl) ?_
    show W p l e room_1 s m args below meth c H4 locs4 _ _ Q (F0 m _ ls2 [.long (Int64.ofInt x3), .long (Int64.ofInt x3)])
    refine W.lcmp hx hb dL_law_631 ?_
    refine W.eq (g2 := F0 m 632 ls2 [.int 0]) (by rw [lz_cmp0]) ?_
    refine lv_if_eq (tgt := 637) hx hb dL_law_632 rfl (fun _ => ?_) (fun h => absurd rfl h)
    refine lv_goto (tgt := 1361) hx hb dL_law_637 rfl ?_
    exact kk H4 locs4 ls2 _ n3 _ _ hH4 hS4 hJ3 hK3 (lv_sub hl2 [2, 3, 4, 5, 6, 7] rfl) (by omega) (by omega)
set_option maxHeartbeats 8000000 in
set_option maxRecDepth 100000 in
theorem lt_inputOf (C : lz_C D p l s m args c a L xs) (hH : bm_HR D s.heap.size w H) (hS : va_S (bm_A s.heap.size) s.heap H locs) (hJ : lJ b t n w) (hK : lt_K b t w) (hl : lv_has ls 9 (lz_lo a b t i)) (hi : 0 ≤ i) (hL : i.toNat + 6 ≤ L) (hf : cells + n + 420 ≤ 601024) (hg : slots + 3 * n + 8100 ≤ 7293034) (kk : lz_K D p l e s m args below meth c a b t n i cells slots Q) : W p l e room_1 s m args below meth c H locs cells slots Q (F0 m 640 ls []) := by
  have hX := C.1
  have hx := hX.1.1
  have hb := hX.1.2.1
  obtain ⟨B, pr, nI, Dt, ev, hJ0⟩ := hJ
  have hL15 : n ≤ 1500 := hJ0.1.2.2.1
  refine lv_aload_n hx hb dL_law_640 rfl (lv_at hl 4 rfl) ?_
  refine lz_ld (k := 1) C hS (lv_at hl 5 rfl) (lv_at hl 0 rfl) hi hL (by decide) dL_law_641 dL_law_642 dL_law_644 dL_law_645 dL_law_646 ?_
  refine lz_ld (k := 2) C hS (lv_at hl 5 rfl) (lv_at hl 0 rfl) hi hL (by decide) dL_law_647 dL_law_648 dL_law_650 dL_law_651 dL_law_652 ?_
  refine lz_ld (k := 3) C hS (lv_at hl 5 rfl) (lv_at hl 0 rfl) hi hL (by decide) dL_law_653 dL_law_654 dL_law_656 dL_law_657 dL_law_658 ?_
  refine lv_aload_n hx hb dL_law_659 rfl (lv_at hl 2 rfl) ?_
  refine W.eq (g2 := F0 m 660 ls ((([bm_r (some b), bm_i (lz_v xs i 1), bm_i (lz_v xs i 2), bm_i (lz_v xs i 3), bm_r (some (t + 154))] : List bm_V).reverse ++ []).map (bm_val D))) rfl ?_
  have hcl := lz_F1 (κ := 1) (fun E2 => la_inputOf (d := 0) (E2 := E2) (f := (lz_v xs i 1)) (k := (lz_v xs i 2)) (i := (lz_v xs i 3)) hJ0) (by decide +kernel) (by decide)
  refine lz_callH (as := [bm_r (some b), bm_i (lz_v xs i 1), bm_i (lz_v xs i 2), bm_i (lz_v xs i 3), bm_r (some (t + 154))]) (rest := []) (mc := 340) (ms := 1100) hX dL_law_660 lo_inputOf wL_1054 (lh_inputOf (d := 1300) l hX.2.2.2.2.2.2.2 hK.2.2.2.2.2.2.2 (bm_InSt.cons (v := bm_i (lz_v xs i 1)) (lz_vin xs i 1) (bm_InSt.cons (v := bm_i (lz_v xs i 2)) (lz_vin xs i 2) (bm_InSt.cons (v := bm_i (lz_v xs i 3)) (lz_vin xs i 3) bm_InSt_nil))) hcl (lh_H_of hK (Or.inl ⟨rfl, rfl⟩))) rfl hH hS hl.1 (Nat.le_of_ble_eq_true rfl) ⟨by show cells + 340 ≤ 601024; omega, by show slots + 1100 ≤ 7293034; omega⟩ (fun v w2 hG H2 locs2 hH2 hS2 hin2 => ?_)
  obtain ⟨k, hk0, hk2, hv, hK2, hmc⟩ := lt_of hK (Or.inl rfl) (by decide) (by decide +kernel) hG
  cases hv
  refine W.eq (g2 := F0 m 663 ls [.int (Int32.ofInt k)]) rfl ?_
  refine lv_istore (lv' := (6, .int (Int32.ofInt k)) :: lz_lo a b t i) hx hb dL_law_663 hl (by decide) rfl (fun ls1 hl1 => ?_)
  refine lv_aload_n hx hb dL_law_665 rfl (lv_at hl1 4 rfl) ?_
  refine lz_ld (k := 1) C hS2 (lv_at hl1 6 rfl) (lv_at hl1 1 rfl) hi hL (by decide) dL_law_666 dL_law_667 dL_law_669 dL_law_670 dL_law_671 ?_
  refine lz_ld (k := 2) C hS2 (lv_at hl1 6 rfl) (lv_at hl1 1 rfl) hi hL (by decide) dL_law_672 dL_law_673 dL_law_675 dL_law_676 dL_law_677 ?_
  refine lz_ld (k := 3) C hS2 (lv_at hl1 6 rfl) (lv_at hl1 1 rfl) hi hL (by decide) dL_law_678 dL_law_679 dL_law_681 dL_law_682 dL_law_683 ?_
  refine W.eq (g2 := F0 m 684 ls1 ((([bm_i (lz_v xs i 1), bm_i (lz_v xs i 2), bm_i (lz_v xs i 3)] : List bm_V).reverse ++ bm_r (some (t + 122)) :: []).map (bm_val D))) rfl ?_
  refine lz_callV (as := [bm_i (lz_v xs i 1), bm_i (lz_v xs i 2), bm_i (lz_v xs i 3)]) (rest := []) (mc := 50) (ms := 6920) hX dL_law_684 bm_cw_244 bm_cl_12 wL_1752 wL_1753 wL_1754 hK2.2.2.2.2.2.2.1 rfl (bm_InSt.cons (v := bm_i (lz_v xs i 1)) (lz_vin xs i 1) (bm_InSt.cons (v := bm_i (lz_v xs i 2)) (lz_vin xs i 2) (bm_InSt.cons (v := bm_i (lz_v xs i 3)) (lz_vin xs i 3) bm_InSt_nil))) (lz_lift hmc) (fun r w' q => q.1.1.1.2.1) hH2 hS2 hl1.1 (Nat.le_of_ble_eq_true rfl) ⟨by show cells + 340 + 50 ≤ 601024; omega, by show slots + 1100 + 6920 ≤ 7293034; omega⟩ (fun v3 w3 hq H3 locs3 hH3 hS3 hin3 => ?_) (fun E w3 hq => by obtain ⟨⟨-, u, hu, -⟩, -⟩ := hq; cases hu)
  obtain ⟨⟨hR, u, hu, hout, hthr, n3, hn3, hJ3⟩, ht3⟩ := hq
  obtain ⟨x3, rfl⟩ := bm_typ1 ht3
  cases hu
  have hK3 := hK2.E hR.1
  have hgl := hR.2 (t + 154) (by omega) (by omega) 0
  have hxi := hin3 _ rfl
  refine W.eq (g2 := F0 m 687 ls1 [.int (Int32.ofInt x3)]) rfl ?_
  refine lv_istore (lv' := (7, .int (Int32.ofInt x3)) :: (6, .int (Int32.ofInt k)) :: lz_lo a b t i) hx hb dL_law_687 hl1 (by decide) rfl (fun ls2 hl2 => ?_)
  refine lv_aload_n hx hb dL_law_689 rfl (lv_at hl2 5 rfl) ?_
  refine W.eq (g2 := F0 m 690 ls2 ((([] : List bm_V).reverse ++ bm_r (some (t + 122)) :: []).map (bm_val D))) rfl ?_
  refine lz_callV (as := []) (rest := []) (mc := 0) (ms := 0) hX dL_law_690 bm_cw_164 bm_cl_12 wL_1310 wL_1311 wL_1312 hK3.2.2.2.2.2.2.1 rfl bm_InSt_nil (lt_thr hK3 hthr) (fun r w' q => lt_thB q) hH3 hS3 hl2.1 (Nat.le_of_ble_eq_true rfl) ⟨by show cells + 340 + 50 + 0 ≤ 601024; omega, by show slots + 1100 + 6920 + 0 ≤ 7293034; omega⟩ (fun v4 w4 hq H4 locs4 hH4 hS4 _ => ?_) (fun E w4 hq => by cases hq.1)
  obtain ⟨hv4, rfl⟩ := hq
  cases hv4
  refine W.eq (g2 := F0 m 693 ls2 [.int (Int32.ofInt k)]) rfl ?_
  refine lv_iload hx hb dL_law_693 (lv_at hl2 1 rfl) ?_
  refine lv_icmp_eq (tgt := 700) hx hb dL_law_695 rfl (fun _ => ?_) (fun h => absurd rfl h)
  refine lv_iload hx hb dL_law_700 (lv_at hl2 1 rfl) ?_
  refine lv_if_ne (tgt := 717) hx hb dL_law_702 rfl (fun hne => ?_) (fun heq => ?_)
  · refine lv_goto (tgt := 1361) hx hb dL_law_717 rfl ?_
    exact kk H4 locs4 ls2 _ n3 _ _ hH4 hS4 hJ3 hK3 (lv_sub hl2 [2, 3, 4, 5, 6, 7] rfl) (by omega) (by omega)
  · have hk : k = 0 := (lz_k0 hk0 hk2).mp heq
    refine lv_aload_n hx hb dL_law_705 rfl (lv_at hl2 4 rfl) ?_
    refine lv_iconst (v := Int32.ofInt 0) hx hb dL_law_706 rfl ?_
    refine lz_lald hX hK3.2.2.1 hK3.2.2.2.1 dL_law_707 hH4 ?_
    rw [hgl, hout hk]
    refine lv_iload hx hb dL_law_708 (lv_at hl2 0 rfl) ?_
    refine lv_i2l (v := Int64.ofInt x3) hx hb dL_law_710 (lz_i2l hxi) ?_
    show W p l e room_1 s m args below meth c H4 locs4 _ _ Q (F0 m _ ls2 [.long (Int64.ofInt x3), .long (Int64.ofInt x3)])
    refine W.lcmp hx hb dL_law_711 ?_
    refine W.eq (g2 := F0 m 712 ls2 [.int 0]) (by rw [lz_cmp0]) ?_
    refine lv_if_eq (tgt := 717) hx hb dL_law_712 rfl (fun _ => ?_) (fun h => absurd rfl h)
    refine lv_goto (tgt := 1361) hx hb dL_law_717 rfl ?_
    exact kk H4 locs4 ls2 _ n3 _ _ hH4 hS4 hJ3 hK3 (lv_sub hl2 [2, 3, 4, 5, 6, 7] rfl) (by omega) (by omega)
set_option maxHeartbeats 8000000 in
set_option maxRecDepth 100000 in
theorem lt_propose (C : lz_C D p l s m args c a L xs) (hH : bm_HR D s.heap.size w H) (hS : va_S (bm_A s.heap.size) s.heap H locs) (hJ : lJ b t n w) (hK : lt_K b t w) (hl : lv_has ls 9 (lz_lo a b t i)) (hi : 0 ≤ i) (hL : i.toNat + 6 ≤ L) (hf : cells + n + 420 ≤ 601024) (hg : slots + 3 * n + 8100 ≤ 7293034) (kk : lz_K D p l e s m args below meth c a b t n i cells slots Q) : W p l e room_1 s m args below meth c H locs cells slots Q (F0 m 720 ls []) := by
  have hX := C.1
  have hx := hX.1.1
  have hb := hX.1.2.1
  obtain ⟨B, pr, nI, Dt, ev, hJ0⟩ := hJ
  have hL15 : n ≤ 1500 := hJ0.1.2.2.1
  refine lv_aload_n hx hb dL_law_720 rfl (lv_at hl 4 rfl) ?_
  refine lz_ld (k := 1) C hS (lv_at hl 5 rfl) (lv_at hl 0 rfl) hi hL (by decide) dL_law_721 dL_law_722 dL_law_724 dL_law_725 dL_law_726 ?_
  refine lv_aload_n hx hb dL_law_727 rfl (lv_at hl 2 rfl) ?_
  refine W.eq (g2 := F0 m 728 ls ((([bm_r (some b), bm_i (lz_v xs i 1), bm_r (some (t + 154))] : List bm_V).reverse ++ []).map (bm_val D))) rfl ?_
  have hcl := lz_F1 (κ := 1) (fun E2 => la_propose (d := 0) (E2 := E2) (x := (lz_v xs i 1)) hJ0) (by decide +kernel) (by decide)
  refine lz_callH (as := [bm_r (some b), bm_i (lz_v xs i 1), bm_r (some (t + 154))]) (rest := []) (mc := 340) (ms := 1100) hX dL_law_728 lo_propose wL_1062 (lh_propose (d := 1300) l hX.2.2.2.2.2.2.2 hK.2.2.2.2.2.2.2 (bm_InSt.cons (v := bm_i (lz_v xs i 1)) (lz_vin xs i 1) bm_InSt_nil) hcl (lh_H_of hK (Or.inl ⟨rfl, rfl⟩))) rfl hH hS hl.1 (Nat.le_of_ble_eq_true rfl) ⟨by show cells + 340 ≤ 601024; omega, by show slots + 1100 ≤ 7293034; omega⟩ (fun v w2 hG H2 locs2 hH2 hS2 hin2 => ?_)
  obtain ⟨k, hk0, hk2, hv, hK2, hmc⟩ := lt_of hK (Or.inl rfl) (by decide) (by decide +kernel) hG
  cases hv
  refine W.eq (g2 := F0 m 731 ls [.int (Int32.ofInt k)]) rfl ?_
  refine lv_istore (lv' := (6, .int (Int32.ofInt k)) :: lz_lo a b t i) hx hb dL_law_731 hl (by decide) rfl (fun ls1 hl1 => ?_)
  refine lv_aload_n hx hb dL_law_733 rfl (lv_at hl1 4 rfl) ?_
  refine lz_ld (k := 1) C hS2 (lv_at hl1 6 rfl) (lv_at hl1 1 rfl) hi hL (by decide) dL_law_734 dL_law_735 dL_law_737 dL_law_738 dL_law_739 ?_
  refine W.eq (g2 := F0 m 740 ls1 ((([bm_i (lz_v xs i 1)] : List bm_V).reverse ++ bm_r (some (t + 122)) :: []).map (bm_val D))) rfl ?_
  refine lz_callV (as := [bm_i (lz_v xs i 1)]) (rest := []) (mc := 50) (ms := 6920) hX dL_law_740 bm_cw_246 bm_cl_12 wL_1760 wL_1761 wL_1762 hK2.2.2.2.2.2.2.1 rfl (bm_InSt.cons (v := bm_i (lz_v xs i 1)) (lz_vin xs i 1) bm_InSt_nil) (lz_lift hmc) (fun r w' q => q.1.1.1.2.1) hH2 hS2 hl1.1 (Nat.le_of_ble_eq_true rfl) ⟨by show cells + 340 + 50 ≤ 601024; omega, by show slots + 1100 + 6920 ≤ 7293034; omega⟩ (fun v3 w3 hq H3 locs3 hH3 hS3 hin3 => ?_) (fun E w3 hq => by obtain ⟨⟨-, u, hu, -⟩, -⟩ := hq; cases hu)
  obtain ⟨⟨hR, u, hu, hout, hthr, n3, hn3, hJ3⟩, ht3⟩ := hq
  obtain ⟨x3, rfl⟩ := bm_typ1 ht3
  cases hu
  have hK3 := hK2.E hR.1
  have hgl := hR.2 (t + 154) (by omega) (by omega) 0
  have hxi := hin3 _ rfl
  refine W.eq (g2 := F0 m 743 ls1 [.int (Int32.ofInt x3)]) rfl ?_
  refine lv_istore (lv' := (7, .int (Int32.ofInt x3)) :: (6, .int (Int32.ofInt k)) :: lz_lo a b t i) hx hb dL_law_743 hl1 (by decide) rfl (fun ls2 hl2 => ?_)
  refine lv_aload_n hx hb dL_law_745 rfl (lv_at hl2 5 rfl) ?_
  refine W.eq (g2 := F0 m 746 ls2 ((([] : List bm_V).reverse ++ bm_r (some (t + 122)) :: []).map (bm_val D))) rfl ?_
  refine lz_callV (as := []) (rest := []) (mc := 0) (ms := 0) hX dL_law_746 bm_cw_164 bm_cl_12 wL_1310 wL_1311 wL_1312 hK3.2.2.2.2.2.2.1 rfl bm_InSt_nil (lt_thr hK3 hthr) (fun r w' q => lt_thB q) hH3 hS3 hl2.1 (Nat.le_of_ble_eq_true rfl) ⟨by show cells + 340 + 50 + 0 ≤ 601024; omega, by show slots + 1100 + 6920 + 0 ≤ 7293034; omega⟩ (fun v4 w4 hq H4 locs4 hH4 hS4 _ => ?_) (fun E w4 hq => by cases hq.1)
  obtain ⟨hv4, rfl⟩ := hq
  cases hv4
  refine W.eq (g2 := F0 m 749 ls2 [.int (Int32.ofInt k)]) rfl ?_
  refine lv_iload hx hb dL_law_749 (lv_at hl2 1 rfl) ?_
  refine lv_icmp_eq (tgt := 756) hx hb dL_law_751 rfl (fun _ => ?_) (fun h => absurd rfl h)
  refine lv_iload hx hb dL_law_756 (lv_at hl2 1 rfl) ?_
  refine lv_if_ne (tgt := 773) hx hb dL_law_758 rfl (fun hne => ?_) (fun heq => ?_)
  · refine lv_goto (tgt := 1361) hx hb dL_law_773 rfl ?_
    exact kk H4 locs4 ls2 _ n3 _ _ hH4 hS4 hJ3 hK3 (lv_sub hl2 [2, 3, 4, 5, 6, 7] rfl) (by omega) (by omega)
  · have hk : k = 0 := (lz_k0 hk0 hk2).mp heq
    refine lv_aload_n hx hb dL_law_761 rfl (lv_at hl2 4 rfl) ?_
    refine lv_iconst (v := Int32.ofInt 0) hx hb dL_law_762 rfl ?_
    refine lz_lald hX hK3.2.2.1 hK3.2.2.2.1 dL_law_763 hH4 ?_
    rw [hgl, hout hk]
    refine lv_iload hx hb dL_law_764 (lv_at hl2 0 rfl) ?_
    refine lv_i2l (v := Int64.ofInt x3) hx hb dL_law_766 (lz_i2l hxi) ?_
    show W p l e room_1 s m args below meth c H4 locs4 _ _ Q (F0 m _ ls2 [.long (Int64.ofInt x3), .long (Int64.ofInt x3)])
    refine W.lcmp hx hb dL_law_767 ?_
    refine W.eq (g2 := F0 m 768 ls2 [.int 0]) (by rw [lz_cmp0]) ?_
    refine lv_if_eq (tgt := 773) hx hb dL_law_768 rfl (fun _ => ?_) (fun h => absurd rfl h)
    refine lv_goto (tgt := 1361) hx hb dL_law_773 rfl ?_
    exact kk H4 locs4 ls2 _ n3 _ _ hH4 hS4 hJ3 hK3 (lv_sub hl2 [2, 3, 4, 5, 6, 7] rfl) (by omega) (by omega)
end LT
