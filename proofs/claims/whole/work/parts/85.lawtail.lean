/-! thing, deed, row in the law, behind the wrapper's call -/
theorem g_drop {E : zE} {Γ : zT} {nL pc : Nat} {lv lv2 : List (Nat × Value)} {st : List Value} {M : zM} (h : ∀ q ∈ lv2, q ∈ lv) (k : G E Γ nL pc lv2 st M) : G E Γ nL pc lv st M := by
  obtain ⟨p, e, R, s, m, args, below, meth, c, Q, A, ce, sl⟩ := Γ
  intro ls H locs hl hP hD hS
  refine k ls H locs ⟨hl.1, hl.2.1, fun q hq => ?_⟩ hP hD hS
  obtain ⟨q0, h0, rfl⟩ := List.mem_map.mp hq
  exact hl.2.2 _ (List.mem_map.mpr ⟨q0, h q0 h0, rfl⟩)
theorem cmp_self (x : Int64) : lg_cmp x x = 0 := by
  unfold lg_cmp
  rw [if_neg (show ¬ x > x from Int64.lt_irrefl), if_pos rfl]
theorem ml_1226 : (Cond.methodLink "LostByStateLaw" (55 : Nat) ({ cls := "LostByStateModel", name := "thrown", desc := "()I" } : MethodName)) ∈ zTb := zTb_t 1226 (by decide +kernel) (by decide +kernel)
theorem ml_1227 : (Cond.instanceMethod ({ cls := "LostByStateModel", name := "thrown", desc := "()I" } : MethodName)) ∈ zTb := zTb_t 1227 (by decide +kernel) (by decide +kernel)
theorem ml_1228 : (Cond.selects "LostByStateModel" ({ cls := "LostByStateModel", name := "thrown", desc := "()I" } : MethodName) ({ cls := "LostByStateModel", name := "thrown", desc := "()I" } : MethodName)) ∈ zTb := zTb_t 1228 (by decide +kernel) (by decide +kernel)
theorem ml_1229 : (Cond.code ({ cls := "LostByStateModel", name := "thrown", desc := "()I" } : MethodName) prog_14_method_2_code (1 : Nat) (Option.some FieldType.int)) ∈ zTb := zTb_t 1229 (by decide +kernel) (by decide +kernel)
theorem ml_1324 : (Cond.methodLink "LostByStateLaw" (54 : Nat) ({ cls := "LostByStateModel", name := "thing", desc := "(II)I" } : MethodName)) ∈ zTb := zTb_t 1324 (by decide +kernel) (by decide +kernel)
theorem ml_1325 : (Cond.instanceMethod ({ cls := "LostByStateModel", name := "thing", desc := "(II)I" } : MethodName)) ∈ zTb := zTb_t 1325 (by decide +kernel) (by decide +kernel)
theorem ml_1326 : (Cond.selects "LostByStateModel" ({ cls := "LostByStateModel", name := "thing", desc := "(II)I" } : MethodName) ({ cls := "LostByStateModel", name := "thing", desc := "(II)I" } : MethodName)) ∈ zTb := zTb_t 1326 (by decide +kernel) (by decide +kernel)
theorem ml_1327 : (Cond.code ({ cls := "LostByStateModel", name := "thing", desc := "(II)I" } : MethodName) prog_14_method_42_code (3 : Nat) (Option.some FieldType.int)) ∈ zTb := zTb_t 1327 (by decide +kernel) (by decide +kernel)
theorem ml_1343 : (Cond.methodLink "LostByStateLaw" (60 : Nat) ({ cls := "LostByStateModel", name := "deed", desc := "(II)I" } : MethodName)) ∈ zTb := zTb_t 1343 (by decide +kernel) (by decide +kernel)
theorem ml_1344 : (Cond.instanceMethod ({ cls := "LostByStateModel", name := "deed", desc := "(II)I" } : MethodName)) ∈ zTb := zTb_t 1344 (by decide +kernel) (by decide +kernel)
theorem ml_1345 : (Cond.selects "LostByStateModel" ({ cls := "LostByStateModel", name := "deed", desc := "(II)I" } : MethodName) ({ cls := "LostByStateModel", name := "deed", desc := "(II)I" } : MethodName)) ∈ zTb := zTb_t 1345 (by decide +kernel) (by decide +kernel)
theorem ml_1346 : (Cond.code ({ cls := "LostByStateModel", name := "deed", desc := "(II)I" } : MethodName) prog_14_method_43_code (4 : Nat) (Option.some FieldType.int)) ∈ zTb := zTb_t 1346 (by decide +kernel) (by decide +kernel)
theorem ml_1656 : (Cond.methodLink "LostByStateLaw" (230 : Nat) ({ cls := "LostByStateModel", name := "row", desc := "(I)J" } : MethodName)) ∈ zTb := zTb_t 1656 (by decide +kernel) (by decide +kernel)
theorem ml_1657 : (Cond.instanceMethod ({ cls := "LostByStateModel", name := "row", desc := "(I)J" } : MethodName)) ∈ zTb := zTb_t 1657 (by decide +kernel) (by decide +kernel)
theorem ml_1658 : (Cond.selects "LostByStateModel" ({ cls := "LostByStateModel", name := "row", desc := "(I)J" } : MethodName) ({ cls := "LostByStateModel", name := "row", desc := "(I)J" } : MethodName)) ∈ zTb := zTb_t 1658 (by decide +kernel) (by decide +kernel)
theorem ml_1659 : (Cond.code ({ cls := "LostByStateModel", name := "row", desc := "(I)J" } : MethodName) prog_14_method_110_code (2 : Nat) (Option.some FieldType.long)) ∈ zTb := zTb_t 1659 (by decide +kernel) (by decide +kernel)
theorem zdL_X12_thing (own : String) (idx : Nat) : zWd own idx yX12_thing cX12_thing 3 (some .int) 2 := ⟨⟨ml_1327, ml_14, by decide, by decide, by decide +kernel⟩, by decide⟩
theorem wvL_54 : zWV RLw 54 12 yX12_thing cX12_thing 3 (some .int) 2 := ⟨zdL_X12_thing _ _, ml_1324, ml_1325, RX12, TX12, 41, rfl, ml_1326⟩
theorem zdL_X12_thrown (own : String) (idx : Nat) : zWd own idx yX12_thrown cX12_thrown 1 (some .int) 0 := ⟨⟨ml_1229, ml_14, by decide, by decide, by decide +kernel⟩, by decide⟩
theorem wvL_55 : zWV RLw 55 12 yX12_thrown cX12_thrown 1 (some .int) 0 := ⟨zdL_X12_thrown _ _, ml_1226, ml_1227, RX12, TX12, 41, rfl, ml_1228⟩
theorem zdL_X12_deed (own : String) (idx : Nat) : zWd own idx yX12_deed cX12_deed 4 (some .int) 2 := ⟨⟨ml_1346, ml_14, by decide, by decide, by decide +kernel⟩, by decide⟩
theorem wvL_60 : zWV RLw 60 12 yX12_deed cX12_deed 4 (some .int) 2 := ⟨zdL_X12_deed _ _, ml_1343, ml_1344, RX12, TX12, 41, rfl, ml_1345⟩
theorem zdL_X12_row (own : String) (idx : Nat) : zWd own idx yX12_row cX12_row 2 (some .long) 1 := ⟨⟨ml_1659, ml_14, by decide, by decide, by decide +kernel⟩, by decide⟩
theorem wvL_230 : zWV RLw 230 12 yX12_row cX12_row 2 (some .long) 1 := ⟨zdL_X12_row _ _, ml_1656, ml_1657, RX12, TX12, 41, rfl, ml_1658⟩
theorem dL_354 : decode code 354 = .ok (.istore 5, 2) := by decide +kernel
theorem dL_356 : decode code 356 = .ok (.aload_n 2, 1) := by decide +kernel
theorem dL_357 : decode code 357 = .ok (.aload_n 0, 1) := by decide +kernel
theorem dL_358 : decode code 358 = .ok (.iload 4, 2) := by decide +kernel
theorem dL_360 : decode code 360 = .ok (.iconst 1, 1) := by decide +kernel
theorem dL_361 : decode code 361 = .ok (.iadd, 1) := by decide +kernel
theorem dL_362 : decode code 362 = .ok (.iaload, 1) := by decide +kernel
theorem dL_363 : decode code 363 = .ok (.aload_n 0, 1) := by decide +kernel
theorem dL_364 : decode code 364 = .ok (.iload 4, 2) := by decide +kernel
theorem dL_366 : decode code 366 = .ok (.iconst 2, 1) := by decide +kernel
theorem dL_367 : decode code 367 = .ok (.iadd, 1) := by decide +kernel
theorem dL_368 : decode code 368 = .ok (.iaload, 1) := by decide +kernel
theorem dL_369 : decode code 369 = .ok (.invokevirtual 54, 3) := by decide +kernel
theorem dL_372 : decode code 372 = .ok (.istore 6, 2) := by decide +kernel
theorem dL_374 : decode code 374 = .ok (.aload_n 2, 1) := by decide +kernel
theorem dL_375 : decode code 375 = .ok (.invokevirtual 55, 3) := by decide +kernel
theorem dL_378 : decode code 378 = .ok (.iload 5, 2) := by decide +kernel
theorem dL_380 : decode code 380 = .ok (.if_icmp .eq 5, 3) := by decide +kernel
theorem dL_385 : decode code 385 = .ok (.iload 5, 2) := by decide +kernel
theorem dL_387 : decode code 387 = .ok (.ifCond .ne 15, 3) := by decide +kernel
theorem dL_390 : decode code 390 = .ok (.aload_n 3, 1) := by decide +kernel
theorem dL_391 : decode code 391 = .ok (.iconst 0, 1) := by decide +kernel
theorem dL_392 : decode code 392 = .ok (.laload, 1) := by decide +kernel
theorem dL_393 : decode code 393 = .ok (.iload 6, 2) := by decide +kernel
theorem dL_395 : decode code 395 = .ok (.i2l, 1) := by decide +kernel
theorem dL_396 : decode code 396 = .ok (.lcmp, 1) := by decide +kernel
theorem dL_397 : decode code 397 = .ok (.ifCond .eq 5, 3) := by decide +kernel
theorem dL_402 : decode code 402 = .ok (.goto 1163, 3) := by decide +kernel
theorem dL_422 : decode code 422 = .ok (.istore 5, 2) := by decide +kernel
theorem dL_424 : decode code 424 = .ok (.aload_n 2, 1) := by decide +kernel
theorem dL_425 : decode code 425 = .ok (.aload_n 0, 1) := by decide +kernel
theorem dL_426 : decode code 426 = .ok (.iload 4, 2) := by decide +kernel
theorem dL_428 : decode code 428 = .ok (.iconst 1, 1) := by decide +kernel
theorem dL_429 : decode code 429 = .ok (.iadd, 1) := by decide +kernel
theorem dL_430 : decode code 430 = .ok (.iaload, 1) := by decide +kernel
theorem dL_431 : decode code 431 = .ok (.aload_n 0, 1) := by decide +kernel
theorem dL_432 : decode code 432 = .ok (.iload 4, 2) := by decide +kernel
theorem dL_434 : decode code 434 = .ok (.iconst 2, 1) := by decide +kernel
theorem dL_435 : decode code 435 = .ok (.iadd, 1) := by decide +kernel
theorem dL_436 : decode code 436 = .ok (.iaload, 1) := by decide +kernel
theorem dL_437 : decode code 437 = .ok (.invokevirtual 60, 3) := by decide +kernel
theorem dL_440 : decode code 440 = .ok (.istore 6, 2) := by decide +kernel
theorem dL_442 : decode code 442 = .ok (.aload_n 2, 1) := by decide +kernel
theorem dL_443 : decode code 443 = .ok (.invokevirtual 55, 3) := by decide +kernel
theorem dL_446 : decode code 446 = .ok (.iload 5, 2) := by decide +kernel
theorem dL_448 : decode code 448 = .ok (.if_icmp .eq 5, 3) := by decide +kernel
theorem dL_453 : decode code 453 = .ok (.iload 5, 2) := by decide +kernel
theorem dL_455 : decode code 455 = .ok (.ifCond .ne 15, 3) := by decide +kernel
theorem dL_458 : decode code 458 = .ok (.aload_n 3, 1) := by decide +kernel
theorem dL_459 : decode code 459 = .ok (.iconst 0, 1) := by decide +kernel
theorem dL_460 : decode code 460 = .ok (.laload, 1) := by decide +kernel
theorem dL_461 : decode code 461 = .ok (.iload 6, 2) := by decide +kernel
theorem dL_463 : decode code 463 = .ok (.i2l, 1) := by decide +kernel
theorem dL_464 : decode code 464 = .ok (.lcmp, 1) := by decide +kernel
theorem dL_465 : decode code 465 = .ok (.ifCond .eq 5, 3) := by decide +kernel
theorem dL_470 : decode code 470 = .ok (.goto 1095, 3) := by decide +kernel
theorem dL_1521 : decode code 1521 = .ok (.istore 5, 2) := by decide +kernel
theorem dL_1523 : decode code 1523 = .ok (.aload_n 2, 1) := by decide +kernel
theorem dL_1524 : decode code 1524 = .ok (.aload_n 0, 1) := by decide +kernel
theorem dL_1525 : decode code 1525 = .ok (.iload 4, 2) := by decide +kernel
theorem dL_1527 : decode code 1527 = .ok (.iconst 1, 1) := by decide +kernel
theorem dL_1528 : decode code 1528 = .ok (.iadd, 1) := by decide +kernel
theorem dL_1529 : decode code 1529 = .ok (.iaload, 1) := by decide +kernel
theorem dL_1530 : decode code 1530 = .ok (.invokevirtual 230, 3) := by decide +kernel
theorem dL_1533 : decode code 1533 = .ok (.lstore 6, 2) := by decide +kernel
theorem dL_1535 : decode code 1535 = .ok (.aload_n 2, 1) := by decide +kernel
theorem dL_1536 : decode code 1536 = .ok (.invokevirtual 55, 3) := by decide +kernel
theorem dL_1539 : decode code 1539 = .ok (.iload 5, 2) := by decide +kernel
theorem dL_1541 : decode code 1541 = .ok (.if_icmp .eq 5, 3) := by decide +kernel
theorem dL_1546 : decode code 1546 = .ok (.iload 5, 2) := by decide +kernel
theorem dL_1548 : decode code 1548 = .ok (.ifCond .ne 14, 3) := by decide +kernel
theorem dL_1551 : decode code 1551 = .ok (.aload_n 3, 1) := by decide +kernel
theorem dL_1552 : decode code 1552 = .ok (.iconst 0, 1) := by decide +kernel
theorem dL_1553 : decode code 1553 = .ok (.laload, 1) := by decide +kernel
theorem dL_1554 : decode code 1554 = .ok (.lload 6, 2) := by decide +kernel
theorem dL_1556 : decode code 1556 = .ok (.lcmp, 1) := by decide +kernel
theorem dL_1557 : decode code 1557 = .ok (.ifCond .eq 5, 3) := by decide +kernel
theorem dL_1562 : decode code 1562 = .ok (.goto 3, 3) := by decide +kernel
theorem law_thing_tail {E : zE} {Γ : zT} {d L i N : Nat} {xs : Nat → Int32} {M1 M2 : zM} {kk : Int32} {b : Int32} (hc : Cx E Γ RLw code 8 d) (hd : 121 ≤ d) (hs : Scr E Γ L xs) (hL : L ≤ 2560) (hi : i + 5 ≤ L) (e2 : fX12_thing (xs (i + 1)) (xs (i + 2)) M1 = some (b, M2)) (hth : M2.1 36 12 = kk) (hb : kk = 0 → M2.2.1 59 0 = b.toInt64) (k : G E Γ 8 1565 (lvL i) [] M2) : G E Γ 8 354 (lvL i) [.int kk] M1 := by
  refine g_istore (i := 5) hc (dL_354) (by omega) (lv2 := (5, .int kk) :: lvL i) rfl ?_
  refine g_aload_n (i := 2) (x := 36) hc (dL_356) rfl rfl ?_
  refine g_aload_n (i := 0) (x := 148) hc (dL_357) rfl rfl ?_
  refine g_iload (i := 4) (x := nI i) hc (dL_358) rfl ?_
  refine g_iconst (v := 1) hc (dL_360) (by decide) ?_
  refine g_iadd hc (dL_361) ?_
  refine g_sld (j := i + 1) hc hs (dL_362) (nI_add i 1) (by omega) hL ?_
  refine g_aload_n (i := 0) (x := 148) hc (dL_363) rfl rfl ?_
  refine g_iload (i := 4) (x := nI i) hc (dL_364) rfl ?_
  refine g_iconst (v := 2) hc (dL_366) (by decide) ?_
  refine g_iadd hc (dL_367) ?_
  refine g_sld (j := i + 2) hc hs (dL_368) (nI_add i 2) (by omega) hL ?_
  refine g_callVi ([.int (xs (i + 1)), .int (xs (i + 2))]) hc wvL_54 (dL_369) rfl rfl (d' := 120) (by omega) (Nat.le_of_ble_eq_true rfl) (cX12_thing_ok (K := fun q => q = (b, M2)) (by omega) (xs (i + 1)) (xs (i + 2)) M1 ⟨_, e2, rfl⟩) (fun r0 N0 q0 => ?_)
  rw [(Prod.mk.inj q0).1, (Prod.mk.inj q0).2]
  refine g_istore (i := 6) hc (dL_372) (by omega) (lv2 := (6, .int b) :: (5, .int kk) :: lvL i) rfl ?_
  refine g_aload_n (i := 2) (x := 36) hc (dL_374) rfl rfl ?_
  refine g_callVi ([]) hc wvL_55 (dL_375) rfl rfl (d' := 120) (by omega) (Nat.le_of_ble_eq_true rfl) (cX12_thrown_ok (K := fun q => q = kk) (by omega) M2 hth) (fun r1 N1 q1 => ?_)
  rw [q1.2, ← q1.1]
  refine g_iload (i := 5) (x := kk) hc (dL_378) rfl ?_
  refine g_icmp_eq hc (dL_380) (tgt := 385) (by decide) (fun _ => ?_) (fun z => absurd rfl z)
  refine g_iload (i := 5) (x := kk) hc (dL_385) rfl ?_
  have fin : G E Γ 8 402 ((6, .int b) :: (5, .int kk) :: lvL i) [] M2 := g_goto hc (dL_402) (tgt := 1565) (by decide) (g_drop (fun q hq => List.mem_cons_of_mem _ (List.mem_cons_of_mem _ hq)) k)
  refine g_if_ne hc (dL_387) (tgt := 402) (by decide) (fun _ => fin) (fun z0 => ?_)
  refine g_aload_n (i := 3) (x := 59) hc (dL_390) rfl rfl ?_
  refine g_iconst (v := 0) hc (dL_391) (by decide) ?_
  refine g_laload (n := 1) hc (dL_392) rfl (by decide) ?_
  refine g_iload (i := 6) (x := b) hc (dL_393) rfl ?_
  refine g_i2l hc (dL_395) ?_
  refine g_lcmp hc (dL_396) ?_
  refine g_if_eq hc (dL_397) (tgt := 402) (by decide) (fun _ => fin) (fun z => absurd ?_ z)
  show lg_cmp (M2.2.1 59 0) (b.toInt64) = 0
  rw [hb z0]
  exact cmp_self _
theorem law_deed_tail {E : zE} {Γ : zT} {d L i N : Nat} {xs : Nat → Int32} {M1 M2 : zM} {kk : Int32} {b : Int32} (hc : Cx E Γ RLw code 8 d) (hd : 121 ≤ d) (hs : Scr E Γ L xs) (hL : L ≤ 2560) (hi : i + 5 ≤ L) (e2 : fX12_deed (xs (i + 1)) (xs (i + 2)) M1 = some (b, M2)) (hth : M2.1 36 12 = kk) (hb : kk = 0 → M2.2.1 59 0 = b.toInt64) (k : G E Γ 8 1565 (lvL i) [] M2) : G E Γ 8 422 (lvL i) [.int kk] M1 := by
  refine g_istore (i := 5) hc (dL_422) (by omega) (lv2 := (5, .int kk) :: lvL i) rfl ?_
  refine g_aload_n (i := 2) (x := 36) hc (dL_424) rfl rfl ?_
  refine g_aload_n (i := 0) (x := 148) hc (dL_425) rfl rfl ?_
  refine g_iload (i := 4) (x := nI i) hc (dL_426) rfl ?_
  refine g_iconst (v := 1) hc (dL_428) (by decide) ?_
  refine g_iadd hc (dL_429) ?_
  refine g_sld (j := i + 1) hc hs (dL_430) (nI_add i 1) (by omega) hL ?_
  refine g_aload_n (i := 0) (x := 148) hc (dL_431) rfl rfl ?_
  refine g_iload (i := 4) (x := nI i) hc (dL_432) rfl ?_
  refine g_iconst (v := 2) hc (dL_434) (by decide) ?_
  refine g_iadd hc (dL_435) ?_
  refine g_sld (j := i + 2) hc hs (dL_436) (nI_add i 2) (by omega) hL ?_
  refine g_callVi ([.int (xs (i + 1)), .int (xs (i + 2))]) hc wvL_60 (dL_437) rfl rfl (d' := 120) (by omega) (Nat.le_of_ble_eq_true rfl) (cX12_deed_ok (K := fun q => q = (b, M2)) (by omega) (xs (i + 1)) (xs (i + 2)) M1 ⟨_, e2, rfl⟩) (fun r0 N0 q0 => ?_)
  rw [(Prod.mk.inj q0).1, (Prod.mk.inj q0).2]
  refine g_istore (i := 6) hc (dL_440) (by omega) (lv2 := (6, .int b) :: (5, .int kk) :: lvL i) rfl ?_
  refine g_aload_n (i := 2) (x := 36) hc (dL_442) rfl rfl ?_
  refine g_callVi ([]) hc wvL_55 (dL_443) rfl rfl (d' := 120) (by omega) (Nat.le_of_ble_eq_true rfl) (cX12_thrown_ok (K := fun q => q = kk) (by omega) M2 hth) (fun r1 N1 q1 => ?_)
  rw [q1.2, ← q1.1]
  refine g_iload (i := 5) (x := kk) hc (dL_446) rfl ?_
  refine g_icmp_eq hc (dL_448) (tgt := 453) (by decide) (fun _ => ?_) (fun z => absurd rfl z)
  refine g_iload (i := 5) (x := kk) hc (dL_453) rfl ?_
  have fin : G E Γ 8 470 ((6, .int b) :: (5, .int kk) :: lvL i) [] M2 := g_goto hc (dL_470) (tgt := 1565) (by decide) (g_drop (fun q hq => List.mem_cons_of_mem _ (List.mem_cons_of_mem _ hq)) k)
  refine g_if_ne hc (dL_455) (tgt := 470) (by decide) (fun _ => fin) (fun z0 => ?_)
  refine g_aload_n (i := 3) (x := 59) hc (dL_458) rfl rfl ?_
  refine g_iconst (v := 0) hc (dL_459) (by decide) ?_
  refine g_laload (n := 1) hc (dL_460) rfl (by decide) ?_
  refine g_iload (i := 6) (x := b) hc (dL_461) rfl ?_
  refine g_i2l hc (dL_463) ?_
  refine g_lcmp hc (dL_464) ?_
  refine g_if_eq hc (dL_465) (tgt := 470) (by decide) (fun _ => fin) (fun z => absurd ?_ z)
  show lg_cmp (M2.2.1 59 0) (b.toInt64) = 0
  rw [hb z0]
  exact cmp_self _
theorem law_row_tail {E : zE} {Γ : zT} {d L i N : Nat} {xs : Nat → Int32} {M1 M2 : zM} {kk : Int32} {b : Int64} (hc : Cx E Γ RLw code 8 d) (hd : 121 ≤ d) (hs : Scr E Γ L xs) (hL : L ≤ 2560) (hi : i + 5 ≤ L) (e2 : fX12_row (xs (i + 1)) M1 = some (b, M2)) (hth : M2.1 36 12 = kk) (hb : kk = 0 → M2.2.1 59 0 = b) (k : G E Γ 8 1565 (lvL i) [] M2) : G E Γ 8 1521 (lvL i) [.int kk] M1 := by
  refine g_istore (i := 5) hc (dL_1521) (by omega) (lv2 := (5, .int kk) :: lvL i) rfl ?_
  refine g_aload_n (i := 2) (x := 36) hc (dL_1523) rfl rfl ?_
  refine g_aload_n (i := 0) (x := 148) hc (dL_1524) rfl rfl ?_
  refine g_iload (i := 4) (x := nI i) hc (dL_1525) rfl ?_
  refine g_iconst (v := 1) hc (dL_1527) (by decide) ?_
  refine g_iadd hc (dL_1528) ?_
  refine g_sld (j := i + 1) hc hs (dL_1529) (nI_add i 1) (by omega) hL ?_
  refine g_callVl ([.int (xs (i + 1))]) hc wvL_230 (dL_1530) rfl rfl (d' := 120) (by omega) (Nat.le_of_ble_eq_true rfl) (cX12_row_ok (K := fun q => q = (b, M2)) (by omega) (xs (i + 1)) M1 ⟨_, e2, rfl⟩) (fun r0 N0 q0 => ?_)
  rw [(Prod.mk.inj q0).1, (Prod.mk.inj q0).2]
  refine g_lstore (i := 6) hc (dL_1533) (by omega) (lv2 := (6, .long b) :: (5, .int kk) :: lvL i) rfl ?_
  refine g_aload_n (i := 2) (x := 36) hc (dL_1535) rfl rfl ?_
  refine g_callVi ([]) hc wvL_55 (dL_1536) rfl rfl (d' := 120) (by omega) (Nat.le_of_ble_eq_true rfl) (cX12_thrown_ok (K := fun q => q = kk) (by omega) M2 hth) (fun r1 N1 q1 => ?_)
  rw [q1.2, ← q1.1]
  refine g_iload (i := 5) (x := kk) hc (dL_1539) rfl ?_
  refine g_icmp_eq hc (dL_1541) (tgt := 1546) (by decide) (fun _ => ?_) (fun z => absurd rfl z)
  refine g_iload (i := 5) (x := kk) hc (dL_1546) rfl ?_
  have fin : G E Γ 8 1562 ((6, .long b) :: (5, .int kk) :: lvL i) [] M2 := g_goto hc (dL_1562) (tgt := 1565) (by decide) (g_drop (fun q hq => List.mem_cons_of_mem _ (List.mem_cons_of_mem _ hq)) k)
  refine g_if_ne hc (dL_1548) (tgt := 1562) (by decide) (fun _ => fin) (fun z0 => ?_)
  refine g_aload_n (i := 3) (x := 59) hc (dL_1551) rfl rfl ?_
  refine g_iconst (v := 0) hc (dL_1552) (by decide) ?_
  refine g_laload (n := 1) hc (dL_1553) rfl (by decide) ?_
  refine g_lload (i := 6) (x := b) hc (dL_1554) rfl ?_
  refine g_lcmp hc (dL_1556) ?_
  refine g_if_eq hc (dL_1557) (tgt := 1562) (by decide) (fun _ => fin) (fun z => absurd ?_ z)
  show lg_cmp (M2.2.1 59 0) (b) = 0
  rw [hb z0]
  exact cmp_self _
