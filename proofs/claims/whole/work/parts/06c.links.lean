theorem lay_0 : ∀ w ∈ u_ws RX0 TX0 3, w ∈ qwords := by
  intro w hw
  have h : w ∈ ([Cond.laysFinal "QuayBerths$Dealer" "QuayBerths$Dealer" "told" "LQuayBerths$Told;", Cond.laysFinal "QuayBerths$Dealer" "QuayBerths$Dealer" "stays" "LQuayBerths$Stays;", Cond.laysFinal "QuayBerths$Dealer" "QuayBerths$Dealer" "taker" "[I"] : List Cond) := hw
  simp only [List.mem_cons, List.not_mem_nil, or_false] at h
  rcases h with rfl | rfl | rfl
  · exact qw_363
  · exact qw_365
  · exact qw_367
theorem lay_1 : ∀ w ∈ u_ws RX1 TX1 11, w ∈ qwords := by
  intro w hw
  have h : w ∈ ([Cond.laysFinal "QuayBerths$FirstFour" "QuayBerths$FirstFour" "told" "LQuayBerths$Told;", Cond.laysFinal "QuayBerths$FirstFour" "QuayBerths$FirstFour" "stays" "LQuayBerths$Stays;", Cond.laysFinal "QuayBerths$FirstFour" "QuayBerths$FirstFour" "search" "LQuayBerths$Search;", Cond.lays "QuayBerths$FirstFour" "QuayBerths$FirstFour" "known" "Z", Cond.lays "QuayBerths$FirstFour" "QuayBerths$FirstFour" "ships" "I", Cond.lays "QuayBerths$FirstFour" "QuayBerths$FirstFour" "leftOut" "I", Cond.lays "QuayBerths$FirstFour" "QuayBerths$FirstFour" "cost" "I", Cond.laysFinal "QuayBerths$FirstFour" "QuayBerths$FirstFour" "chosen" "[I", Cond.laysFinal "QuayBerths$FirstFour" "QuayBerths$FirstFour" "first" "[I", Cond.laysFinal "QuayBerths$FirstFour" "QuayBerths$FirstFour" "trial" "[I", Cond.laysFinal "QuayBerths$FirstFour" "QuayBerths$FirstFour" "hopeful" "[Z"] : List Cond) := hw
  simp only [List.mem_cons, List.not_mem_nil, or_false] at h
  rcases h with rfl | rfl | rfl | rfl | rfl | rfl | rfl | rfl | rfl | rfl | rfl
  · exact qw_470
  · exact qw_472
  · exact qw_474
  · exact qw_476
  · exact qw_478
  · exact qw_480
  · exact qw_482
  · exact qw_484
  · exact qw_486
  · exact qw_488
  · exact qw_490
theorem lay_2 : ∀ w ∈ u_ws RX2 TX2 5, w ∈ qwords := by
  intro w hw
  have h : w ∈ ([Cond.laysFinal "QuayBerths$History" "QuayBerths$History" "kept" "[[I", Cond.lays "QuayBerths$History" "QuayBerths$History" "oldest" "I", Cond.lays "QuayBerths$History" "QuayBerths$History" "acts" "I", Cond.laysFinal "QuayBerths$History" "QuayBerths$History" "marks" "[[I", Cond.lays "QuayBerths$History" "QuayBerths$History" "made" "I"] : List Cond) := hw
  simp only [List.mem_cons, List.not_mem_nil, or_false] at h
  rcases h with rfl | rfl | rfl | rfl | rfl
  · exact qw_510
  · exact qw_512
  · exact qw_514
  · exact qw_516
  · exact qw_518
theorem lay_3 : ∀ w ∈ u_ws RX3 TX3 6, w ∈ qwords := by
  intro w hw
  have h : w ∈ ([Cond.laysFinal "QuayBerths$Laws" "QuayBerths$Laws" "told" "LQuayBerths$Told;", Cond.laysFinal "QuayBerths$Laws" "QuayBerths$Laws" "waters" "LQuayBerths$Waters;", Cond.laysFinal "QuayBerths$Laws" "QuayBerths$Laws" "stays" "LQuayBerths$Stays;", Cond.laysFinal "QuayBerths$Laws" "QuayBerths$Laws" "dealer" "LQuayBerths$Dealer;", Cond.lays "QuayBerths$Laws" "QuayBerths$Laws" "work" "I", Cond.lays "QuayBerths$Laws" "QuayBerths$Laws" "leave" "I"] : List Cond) := hw
  simp only [List.mem_cons, List.not_mem_nil, or_false] at h
  rcases h with rfl | rfl | rfl | rfl | rfl | rfl
  · exact qw_384
  · exact qw_386
  · exact qw_388
  · exact qw_390
  · exact qw_392
  · exact qw_394
theorem lay_4 : ∀ w ∈ u_ws RX4 TX4 1, w ∈ qwords := by
  intro w hw
  have h : w ∈ ([Cond.laysFinal "QuayBerths$Ranking" "QuayBerths$Ranking" "told" "LQuayBerths$Told;"] : List Cond) := hw
  simp only [List.mem_cons, List.not_mem_nil, or_false] at h
  rcases h with rfl
  · exact qw_445
theorem lay_5 : ∀ w ∈ u_ws RX5 TX5 7, w ∈ qwords := by
  intro w hw
  have h : w ∈ ([Cond.laysFinal "QuayBerths$Reader" "QuayBerths$Reader" "tape" "[B", Cond.laysFinal "QuayBerths$Reader" "QuayBerths$Reader" "heard" "LQuayBerths$Told;", Cond.laysFinal "QuayBerths$Reader" "QuayBerths$Reader" "number" "[I", Cond.lays "QuayBerths$Reader" "QuayBerths$Reader" "length" "I", Cond.lays "QuayBerths$Reader" "QuayBerths$Reader" "at" "I", Cond.lays "QuayBerths$Reader" "QuayBerths$Reader" "fault" "I", Cond.lays "QuayBerths$Reader" "QuayBerths$Reader" "place" "I"] : List Cond) := hw
  simp only [List.mem_cons, List.not_mem_nil, or_false] at h
  rcases h with rfl | rfl | rfl | rfl | rfl | rfl | rfl
  · exact qw_254
  · exact qw_256
  · exact qw_258
  · exact qw_260
  · exact qw_262
  · exact qw_264
  · exact qw_266
theorem lay_6 : ∀ w ∈ u_ws RX6 TX6 9, w ∈ qwords := by
  intro w hw
  have h : w ∈ ([Cond.laysFinal "QuayBerths$Search" "QuayBerths$Search" "told" "LQuayBerths$Told;", Cond.laysFinal "QuayBerths$Search" "QuayBerths$Search" "waters" "LQuayBerths$Waters;", Cond.laysFinal "QuayBerths$Search" "QuayBerths$Search" "laws" "LQuayBerths$Laws;", Cond.laysFinal "QuayBerths$Search" "QuayBerths$Search" "dealer" "LQuayBerths$Dealer;", Cond.laysFinal "QuayBerths$Search" "QuayBerths$Search" "bed" "[I", Cond.lays "QuayBerths$Search" "QuayBerths$Search" "metre" "I", Cond.lays "QuayBerths$Search" "QuayBerths$Search" "slot" "I", Cond.lays "QuayBerths$Search" "QuayBerths$Search" "cranes" "I", Cond.lays "QuayBerths$Search" "QuayBerths$Search" "leave" "I"] : List Cond) := hw
  simp only [List.mem_cons, List.not_mem_nil, or_false] at h
  rcases h with rfl | rfl | rfl | rfl | rfl | rfl | rfl | rfl | rfl
  · exact qw_419
  · exact qw_421
  · exact qw_423
  · exact qw_425
  · exact qw_427
  · exact qw_429
  · exact qw_431
  · exact qw_433
  · exact qw_435
theorem lay_7 : ∀ w ∈ u_ws RX7 TX7 14, w ∈ qwords := by
  intro w hw
  have h : w ∈ ([Cond.laysFinal "QuayBerths$Stays" "QuayBerths$Stays" "told" "LQuayBerths$Told;", Cond.laysFinal "QuayBerths$Stays" "QuayBerths$Stays" "waters" "LQuayBerths$Waters;", Cond.laysFinal "QuayBerths$Stays" "QuayBerths$Stays" "metre" "[I", Cond.laysFinal "QuayBerths$Stays" "QuayBerths$Stays" "lastMetre" "[I", Cond.laysFinal "QuayBerths$Stays" "QuayBerths$Stays" "start" "[I", Cond.laysFinal "QuayBerths$Stays" "QuayBerths$Stays" "cranes" "[I", Cond.laysFinal "QuayBerths$Stays" "QuayBerths$Stays" "work" "[I", Cond.laysFinal "QuayBerths$Stays" "QuayBerths$Stays" "leave" "[I", Cond.laysFinal "QuayBerths$Stays" "QuayBerths$Stays" "busy" "[I", Cond.laysFinal "QuayBerths$Stays" "QuayBerths$Stays" "row" "[I", Cond.lays "QuayBerths$Stays" "QuayBerths$Stays" "rowLength" "I", Cond.lays "QuayBerths$Stays" "QuayBerths$Stays" "heldMetre" "I", Cond.lays "QuayBerths$Stays" "QuayBerths$Stays" "heldStart" "I", Cond.lays "QuayBerths$Stays" "QuayBerths$Stays" "heldCranes" "I"] : List Cond) := hw
  simp only [List.mem_cons, List.not_mem_nil, or_false] at h
  rcases h with rfl | rfl | rfl | rfl | rfl | rfl | rfl | rfl | rfl | rfl | rfl | rfl | rfl | rfl
  · exact qw_324
  · exact qw_326
  · exact qw_328
  · exact qw_330
  · exact qw_332
  · exact qw_334
  · exact qw_336
  · exact qw_338
  · exact qw_340
  · exact qw_342
  · exact qw_344
  · exact qw_346
  · exact qw_348
  · exact qw_350
theorem lay_8 : ∀ w ∈ u_ws RX8 TX8 15, w ∈ qwords := by
  intro w hw
  have h : w ∈ ([Cond.laysFinal "QuayBerths$Told" "QuayBerths$Told" "setting" "[I", Cond.lays "QuayBerths$Told" "QuayBerths$Told" "settingsTold" "I", Cond.lays "QuayBerths$Told" "QuayBerths$Told" "sections" "I", Cond.laysFinal "QuayBerths$Told" "QuayBerths$Told" "sectionFrom" "[I", Cond.laysFinal "QuayBerths$Told" "QuayBerths$Told" "sectionDepth" "[I", Cond.lays "QuayBerths$Told" "QuayBerths$Told" "cranes" "I", Cond.laysFinal "QuayBerths$Told" "QuayBerths$Told" "craneFirst" "[I", Cond.laysFinal "QuayBerths$Told" "QuayBerths$Told" "craneLast" "[I", Cond.lays "QuayBerths$Told" "QuayBerths$Told" "tides" "I", Cond.laysFinal "QuayBerths$Told" "QuayBerths$Told" "tideSlot" "[I", Cond.laysFinal "QuayBerths$Told" "QuayBerths$Told" "tideLevel" "[I", Cond.laysFinal "QuayBerths$Told" "QuayBerths$Told" "gangsTold" "[I", Cond.lays "QuayBerths$Told" "QuayBerths$Told" "ships" "I", Cond.laysFinal "QuayBerths$Told" "QuayBerths$Told" "contract" "[I", Cond.laysFinal "QuayBerths$Told" "QuayBerths$Told" "name" "[I"] : List Cond) := hw
  simp only [List.mem_cons, List.not_mem_nil, or_false] at h
  rcases h with rfl | rfl | rfl | rfl | rfl | rfl | rfl | rfl | rfl | rfl | rfl | rfl | rfl | rfl | rfl
  · exact qw_194
  · exact qw_196
  · exact qw_198
  · exact qw_200
  · exact qw_202
  · exact qw_204
  · exact qw_206
  · exact qw_208
  · exact qw_210
  · exact qw_212
  · exact qw_214
  · exact qw_216
  · exact qw_218
  · exact qw_220
  · exact qw_222
theorem lay_9 : ∀ w ∈ u_ws RX9 TX9 2, w ∈ qwords := by
  intro w hw
  have h : w ∈ ([Cond.laysFinal "QuayBerths$Waters" "QuayBerths$Waters" "told" "LQuayBerths$Told;", Cond.laysFinal "QuayBerths$Waters" "QuayBerths$Waters" "levels" "[I"] : List Cond) := hw
  simp only [List.mem_cons, List.not_mem_nil, or_false] at h
  rcases h with rfl | rfl
  · exact qw_278
  · exact qw_280
theorem lay_10 : ∀ w ∈ u_ws RX10 TX10 2, w ∈ qwords := by
  intro w hw
  have h : w ∈ ([Cond.laysFinal "QuayBerths$Written" "QuayBerths$Written" "bytes" "[B", Cond.lays "QuayBerths$Written" "QuayBerths$Written" "length" "I"] : List Cond) := hw
  simp only [List.mem_cons, List.not_mem_nil, or_false] at h
  rcases h with rfl | rfl
  · exact qw_531
  · exact qw_533
theorem lay_11 : ∀ w ∈ u_ws RX11 TX11 15, w ∈ qwords := by
  intro w hw
  have h : w ∈ ([Cond.laysFinal "QuayBerths" "QuayBerths" "tape" "[B", Cond.lays "QuayBerths" "QuayBerths" "tapeLength" "I", Cond.laysFinal "QuayBerths" "QuayBerths" "told" "LQuayBerths$Told;", Cond.laysFinal "QuayBerths" "QuayBerths" "heard" "LQuayBerths$Told;", Cond.laysFinal "QuayBerths" "QuayBerths" "reader" "LQuayBerths$Reader;", Cond.laysFinal "QuayBerths" "QuayBerths" "waters" "LQuayBerths$Waters;", Cond.laysFinal "QuayBerths" "QuayBerths" "stays" "LQuayBerths$Stays;", Cond.laysFinal "QuayBerths" "QuayBerths" "dealer" "LQuayBerths$Dealer;", Cond.laysFinal "QuayBerths" "QuayBerths" "laws" "LQuayBerths$Laws;", Cond.laysFinal "QuayBerths" "QuayBerths" "search" "LQuayBerths$Search;", Cond.laysFinal "QuayBerths" "QuayBerths" "ranking" "LQuayBerths$Ranking;", Cond.laysFinal "QuayBerths" "QuayBerths" "firstFour" "LQuayBerths$FirstFour;", Cond.laysFinal "QuayBerths" "QuayBerths" "history" "LQuayBerths$History;", Cond.laysFinal "QuayBerths" "QuayBerths" "written" "LQuayBerths$Written;", Cond.laysFinal "QuayBerths" "QuayBerths" "before" "[I"] : List Cond) := hw
  simp only [List.mem_cons, List.not_mem_nil, or_false] at h
  rcases h with rfl | rfl | rfl | rfl | rfl | rfl | rfl | rfl | rfl | rfl | rfl | rfl | rfl | rfl | rfl
  · exact qw_551
  · exact qw_553
  · exact qw_555
  · exact qw_557
  · exact qw_559
  · exact qw_561
  · exact qw_563
  · exact qw_565
  · exact qw_567
  · exact qw_569
  · exact qw_571
  · exact qw_573
  · exact qw_575
  · exact qw_577
  · exact qw_579
theorem lay_12 : ∀ w ∈ u_ws RX12 TX12 42, w ∈ qwords := by
  intro w hw
  have h : w ∈ ([Cond.laysFinal "QuayBerthsModel" "QuayBerthsModel" "fresh" "[I", Cond.laysFinal "QuayBerthsModel" "QuayBerthsModel" "told" "[I", Cond.laysFinal "QuayBerthsModel" "QuayBerthsModel" "freshName" "[J", Cond.laysFinal "QuayBerthsModel" "QuayBerthsModel" "shipName" "[J", Cond.laysFinal "QuayBerthsModel" "QuayBerthsModel" "tape" "[I", Cond.lays "QuayBerthsModel" "QuayBerthsModel" "taped" "I", Cond.lays "QuayBerthsModel" "QuayBerthsModel" "size" "I", Cond.lays "QuayBerthsModel" "QuayBerthsModel" "at" "I", Cond.lays "QuayBerthsModel" "QuayBerthsModel" "place" "I", Cond.lays "QuayBerthsModel" "QuayBerthsModel" "token" "I", Cond.lays "QuayBerthsModel" "QuayBerthsModel" "value" "I", Cond.lays "QuayBerthsModel" "QuayBerthsModel" "bad" "I", Cond.lays "QuayBerthsModel" "QuayBerthsModel" "badPlace" "I", Cond.lays "QuayBerthsModel" "QuayBerthsModel" "gotPlace" "I", Cond.lays "QuayBerthsModel" "QuayBerthsModel" "onces" "I", Cond.lays "QuayBerthsModel" "QuayBerthsModel" "lastFault" "I", Cond.lays "QuayBerthsModel" "QuayBerthsModel" "lastPlace" "I", Cond.lays "QuayBerthsModel" "QuayBerthsModel" "word" "J", Cond.laysFinal "QuayBerthsModel" "QuayBerthsModel" "depthAt" "[I", Cond.laysFinal "QuayBerthsModel" "QuayBerthsModel" "levelAt" "[I", Cond.laysFinal "QuayBerthsModel" "QuayBerthsModel" "stayX" "[I", Cond.laysFinal "QuayBerthsModel" "QuayBerthsModel" "stayT" "[I", Cond.laysFinal "QuayBerthsModel" "QuayBerthsModel" "stayK" "[I", Cond.laysFinal "QuayBerthsModel" "QuayBerthsModel" "stayWork" "[I", Cond.laysFinal "QuayBerthsModel" "QuayBerthsModel" "stayLeave" "[I", Cond.laysFinal "QuayBerthsModel" "QuayBerthsModel" "worksOn" "[I", Cond.laysFinal "QuayBerthsModel" "QuayBerthsModel" "tenDepth" "[I", Cond.lays "QuayBerthsModel" "QuayBerthsModel" "foundT" "I", Cond.lays "QuayBerthsModel" "QuayBerthsModel" "foundX" "I", Cond.laysFinal "QuayBerthsModel" "QuayBerthsModel" "rows" "[I", Cond.laysFinal "QuayBerthsModel" "QuayBerthsModel" "isMade" "[Z", Cond.lays "QuayBerthsModel" "QuayBerthsModel" "acts" "I", Cond.laysFinal "QuayBerthsModel" "QuayBerthsModel" "wasAt" "[I", Cond.laysFinal "QuayBerthsModel" "QuayBerthsModel" "orderRow" "[I", Cond.laysFinal "QuayBerthsModel" "QuayBerthsModel" "fourRow" "[I", Cond.laysFinal "QuayBerthsModel" "QuayBerthsModel" "turn" "[I", Cond.laysFinal "QuayBerthsModel" "QuayBerthsModel" "bestRow" "[I", Cond.lays "QuayBerthsModel" "QuayBerthsModel" "fourMany" "I", Cond.lays "QuayBerthsModel" "QuayBerthsModel" "bestOut" "I", Cond.lays "QuayBerthsModel" "QuayBerthsModel" "bestCost" "I", Cond.laysFinal "QuayBerthsModel" "QuayBerthsModel" "written" "[I", Cond.lays "QuayBerthsModel" "QuayBerthsModel" "writtenMany" "I"] : List Cond) := hw
  simp only [List.mem_cons, List.not_mem_nil, or_false] at h
  rcases h with rfl | rfl | rfl | rfl | rfl | rfl | rfl | rfl | rfl | rfl | rfl | rfl | rfl | rfl | rfl | rfl | rfl | rfl | rfl | rfl | rfl | rfl | rfl | rfl | rfl | rfl | rfl | rfl | rfl | rfl | rfl | rfl | rfl | rfl | rfl | rfl | rfl | rfl | rfl | rfl | rfl | rfl
  · exact qw_1390
  · exact qw_1392
  · exact qw_1394
  · exact qw_1396
  · exact qw_1398
  · exact qw_1400
  · exact qw_1402
  · exact qw_1404
  · exact qw_1406
  · exact qw_1408
  · exact qw_1410
  · exact qw_1412
  · exact qw_1414
  · exact qw_1416
  · exact qw_1418
  · exact qw_1420
  · exact qw_1422
  · exact qw_1424
  · exact qw_1426
  · exact qw_1428
  · exact qw_1430
  · exact qw_1432
  · exact qw_1434
  · exact qw_1436
  · exact qw_1438
  · exact qw_1440
  · exact qw_1442
  · exact qw_1444
  · exact qw_1446
  · exact qw_1448
  · exact qw_1450
  · exact qw_1452
  · exact qw_1454
  · exact qw_1456
  · exact qw_1458
  · exact qw_1460
  · exact qw_1462
  · exact qw_1464
  · exact qw_1466
  · exact qw_1468
  · exact qw_1470
  · exact qw_1472
theorem fl_X11_9 : qFL RX11 9 11 0 := ⟨RX11, TX11, 15, tyX11, rfl, by decide, lay_11, qw_536, tyX11_ok, nmX11, by decide, by decide, by decide, by decide⟩
theorem fl_X11_16 : qFL RX11 16 11 2 := ⟨RX11, TX11, 15, tyX11, rfl, by decide, lay_11, qw_538, tyX11_ok, nmX11, by decide, by decide, by decide, by decide⟩
theorem fl_X11_20 : qFL RX11 20 11 3 := ⟨RX11, TX11, 15, tyX11, rfl, by decide, lay_11, qw_539, tyX11_ok, nmX11, by decide, by decide, by decide, by decide⟩
theorem fl_X11_31 : qFL RX11 31 11 4 := ⟨RX11, TX11, 15, tyX11, rfl, by decide, lay_11, qw_540, tyX11_ok, nmX11, by decide, by decide, by decide, by decide⟩
theorem fl_X11_40 : qFL RX11 40 11 5 := ⟨RX11, TX11, 15, tyX11, rfl, by decide, lay_11, qw_541, tyX11_ok, nmX11, by decide, by decide, by decide, by decide⟩
theorem fl_X11_49 : qFL RX11 49 11 6 := ⟨RX11, TX11, 15, tyX11, rfl, by decide, lay_11, qw_542, tyX11_ok, nmX11, by decide, by decide, by decide, by decide⟩
theorem fl_X11_58 : qFL RX11 58 11 7 := ⟨RX11, TX11, 15, tyX11, rfl, by decide, lay_11, qw_543, tyX11_ok, nmX11, by decide, by decide, by decide, by decide⟩
theorem fl_X11_67 : qFL RX11 67 11 8 := ⟨RX11, TX11, 15, tyX11, rfl, by decide, lay_11, qw_544, tyX11_ok, nmX11, by decide, by decide, by decide, by decide⟩
theorem fl_X11_76 : qFL RX11 76 11 9 := ⟨RX11, TX11, 15, tyX11, rfl, by decide, lay_11, qw_545, tyX11_ok, nmX11, by decide, by decide, by decide, by decide⟩
theorem fl_X11_83 : qFL RX11 83 11 10 := ⟨RX11, TX11, 15, tyX11, rfl, by decide, lay_11, qw_546, tyX11_ok, nmX11, by decide, by decide, by decide, by decide⟩
theorem fl_X11_92 : qFL RX11 92 11 11 := ⟨RX11, TX11, 15, tyX11, rfl, by decide, lay_11, qw_547, tyX11_ok, nmX11, by decide, by decide, by decide, by decide⟩
theorem fl_X11_99 : qFL RX11 99 11 12 := ⟨RX11, TX11, 15, tyX11, rfl, by decide, lay_11, qw_548, tyX11_ok, nmX11, by decide, by decide, by decide, by decide⟩
theorem fl_X11_106 : qFL RX11 106 11 13 := ⟨RX11, TX11, 15, tyX11, rfl, by decide, lay_11, qw_549, tyX11_ok, nmX11, by decide, by decide, by decide, by decide⟩
theorem fl_X11_110 : qFL RX11 110 11 14 := ⟨RX11, TX11, 15, tyX11, rfl, by decide, lay_11, qw_550, tyX11_ok, nmX11, by decide, by decide, by decide, by decide⟩
theorem fl_X11_114 : qFL RX11 114 11 1 := ⟨RX11, TX11, 15, tyX11, rfl, by decide, lay_11, qw_537, tyX11_ok, nmX11, by decide, by decide, by decide, by decide⟩
theorem fl_X11_136 : qFL RX11 136 1 3 := ⟨RX1, TX1, 11, tyX1, rfl, by decide, lay_1, qw_458, tyX1_ok, nmX1, by decide, by decide, by decide, by decide⟩
theorem fl_X11_140 : qFL RX11 140 5 5 := ⟨RX5, TX5, 7, tyX5, rfl, by decide, lay_5, qw_251, tyX5_ok, nmX5, by decide, by decide, by decide, by decide⟩
theorem fl_X11_143 : qFL RX11 143 5 6 := ⟨RX5, TX5, 7, tyX5, rfl, by decide, lay_5, qw_253, tyX5_ok, nmX5, by decide, by decide, by decide, by decide⟩
theorem fl_X11_146 : qFL RX11 146 8 0 := ⟨RX8, TX8, 15, tyX8, rfl, by decide, lay_8, qw_163, tyX8_ok, nmX8, by decide, by decide, by decide, by decide⟩
theorem fl_X11_149 : qFL RX11 149 8 2 := ⟨RX8, TX8, 15, tyX8, rfl, by decide, lay_8, qw_166, tyX8_ok, nmX8, by decide, by decide, by decide, by decide⟩
theorem fl_X11_152 : qFL RX11 152 8 5 := ⟨RX8, TX8, 15, tyX8, rfl, by decide, lay_8, qw_171, tyX8_ok, nmX8, by decide, by decide, by decide, by decide⟩
theorem fl_X11_155 : qFL RX11 155 8 8 := ⟨RX8, TX8, 15, tyX8, rfl, by decide, lay_8, qw_180, tyX8_ok, nmX8, by decide, by decide, by decide, by decide⟩
theorem fl_X11_158 : qFL RX11 158 8 12 := ⟨RX8, TX8, 15, tyX8, rfl, by decide, lay_8, qw_191, tyX8_ok, nmX8, by decide, by decide, by decide, by decide⟩
theorem fl_X11_165 : qFL RX11 165 2 2 := ⟨RX2, TX2, 5, tyX2, rfl, by decide, lay_2, qw_505, tyX2_ok, nmX2, by decide, by decide, by decide, by decide⟩
theorem fl_X11_197 : qFL RX11 197 9 1 := ⟨RX9, TX9, 2, tyX9, rfl, by decide, lay_9, qw_277, tyX9_ok, nmX9, by decide, by decide, by decide, by decide⟩
theorem fl_X11_210 : qFL RX11 210 8 6 := ⟨RX8, TX8, 15, tyX8, rfl, by decide, lay_8, qw_174, tyX8_ok, nmX8, by decide, by decide, by decide, by decide⟩
theorem fl_X11_213 : qFL RX11 213 8 7 := ⟨RX8, TX8, 15, tyX8, rfl, by decide, lay_8, qw_177, tyX8_ok, nmX8, by decide, by decide, by decide, by decide⟩
theorem fl_X11_225 : qFL RX11 225 7 2 := ⟨RX7, TX7, 14, tyX7, rfl, by decide, lay_7, qw_294, tyX7_ok, nmX7, by decide, by decide, by decide, by decide⟩
theorem fl_X11_228 : qFL RX11 228 7 4 := ⟨RX7, TX7, 14, tyX7, rfl, by decide, lay_7, qw_302, tyX7_ok, nmX7, by decide, by decide, by decide, by decide⟩
theorem fl_X11_231 : qFL RX11 231 7 5 := ⟨RX7, TX7, 14, tyX7, rfl, by decide, lay_7, qw_305, tyX7_ok, nmX7, by decide, by decide, by decide, by decide⟩
theorem fl_X11_233 : qFL RX11 233 7 6 := ⟨RX7, TX7, 14, tyX7, rfl, by decide, lay_7, qw_308, tyX7_ok, nmX7, by decide, by decide, by decide, by decide⟩
theorem fl_X11_236 : qFL RX11 236 7 7 := ⟨RX7, TX7, 14, tyX7, rfl, by decide, lay_7, qw_311, tyX7_ok, nmX7, by decide, by decide, by decide, by decide⟩
theorem fl_X11_285 : qFL RX11 285 6 6 := ⟨RX6, TX6, 9, tyX6, rfl, by decide, lay_6, qw_413, tyX6_ok, nmX6, by decide, by decide, by decide, by decide⟩
theorem fl_X11_288 : qFL RX11 288 6 5 := ⟨RX6, TX6, 9, tyX6, rfl, by decide, lay_6, qw_410, tyX6_ok, nmX6, by decide, by decide, by decide, by decide⟩
theorem fl_X11_290 : qFL RX11 290 6 8 := ⟨RX6, TX6, 9, tyX6, rfl, by decide, lay_6, qw_418, tyX6_ok, nmX6, by decide, by decide, by decide, by decide⟩
theorem fl_X11_312 : qFL RX11 312 6 7 := ⟨RX6, TX6, 9, tyX6, rfl, by decide, lay_6, qw_416, tyX6_ok, nmX6, by decide, by decide, by decide, by decide⟩
theorem fl_X11_351 : qFL RX11 351 1 5 := ⟨RX1, TX1, 11, tyX1, rfl, by decide, lay_1, qw_462, tyX1_ok, nmX1, by decide, by decide, by decide, by decide⟩
theorem fl_X11_354 : qFL RX11 354 1 6 := ⟨RX1, TX1, 11, tyX1, rfl, by decide, lay_1, qw_464, tyX1_ok, nmX1, by decide, by decide, by decide, by decide⟩
theorem fl_X11_357 : qFL RX11 357 1 4 := ⟨RX1, TX1, 11, tyX1, rfl, by decide, lay_1, qw_460, tyX1_ok, nmX1, by decide, by decide, by decide, by decide⟩
theorem fl_X11_358 : qFL RX11 358 1 7 := ⟨RX1, TX1, 11, tyX1, rfl, by decide, lay_1, qw_466, tyX1_ok, nmX1, by decide, by decide, by decide, by decide⟩
theorem fl_X11_364 : qFL RX11 364 7 3 := ⟨RX7, TX7, 14, tyX7, rfl, by decide, lay_7, qw_298, tyX7_ok, nmX7, by decide, by decide, by decide, by decide⟩
theorem fl_X11_370 : qFL RX11 370 7 10 := ⟨RX7, TX7, 14, tyX7, rfl, by decide, lay_7, qw_320, tyX7_ok, nmX7, by decide, by decide, by decide, by decide⟩
theorem fl_X11_373 : qFL RX11 373 7 9 := ⟨RX7, TX7, 14, tyX7, rfl, by decide, lay_7, qw_317, tyX7_ok, nmX7, by decide, by decide, by decide, by decide⟩
theorem fl_X11_379 : qFL RX11 379 0 2 := ⟨RX0, TX0, 3, tyX0, rfl, by decide, lay_0, qw_362, tyX0_ok, nmX0, by decide, by decide, by decide, by decide⟩
theorem fl_X11_382 : qFL RX11 382 7 8 := ⟨RX7, TX7, 14, tyX7, rfl, by decide, lay_7, qw_314, tyX7_ok, nmX7, by decide, by decide, by decide, by decide⟩
theorem fl_X11_405 : qFL RX11 405 10 1 := ⟨RX10, TX10, 2, tyX10, rfl, by decide, lay_10, qw_530, tyX10_ok, nmX10, by decide, by decide, by decide, by decide⟩
theorem fl_X11_414 : qFL RX11 414 10 0 := ⟨RX10, TX10, 2, tyX10, rfl, by decide, lay_10, qw_528, tyX10_ok, nmX10, by decide, by decide, by decide, by decide⟩
theorem fl_X11_420 : qFL RX11 420 2 3 := ⟨RX2, TX2, 5, tyX2, rfl, by decide, lay_2, qw_507, tyX2_ok, nmX2, by decide, by decide, by decide, by decide⟩
theorem fl_X11_432 : qFL RX11 432 2 4 := ⟨RX2, TX2, 5, tyX2, rfl, by decide, lay_2, qw_509, tyX2_ok, nmX2, by decide, by decide, by decide, by decide⟩
theorem fl_X0_9 : qFL RX0 9 0 2 := ⟨RX0, TX0, 3, tyX0, rfl, by decide, lay_0, qw_361, tyX0_ok, nmX0, by decide, by decide, by decide, by decide⟩
theorem fl_X0_15 : qFL RX0 15 0 0 := ⟨RX0, TX0, 3, tyX0, rfl, by decide, lay_0, qw_359, tyX0_ok, nmX0, by decide, by decide, by decide, by decide⟩
theorem fl_X0_19 : qFL RX0 19 0 1 := ⟨RX0, TX0, 3, tyX0, rfl, by decide, lay_0, qw_360, tyX0_ok, nmX0, by decide, by decide, by decide, by decide⟩
theorem fl_X0_29 : qFL RX0 29 7 10 := ⟨RX7, TX7, 14, tyX7, rfl, by decide, lay_7, qw_318, tyX7_ok, nmX7, by decide, by decide, by decide, by decide⟩
theorem fl_X0_35 : qFL RX0 35 7 9 := ⟨RX7, TX7, 14, tyX7, rfl, by decide, lay_7, qw_316, tyX7_ok, nmX7, by decide, by decide, by decide, by decide⟩
theorem fl_X0_38 : qFL RX0 38 7 4 := ⟨RX7, TX7, 14, tyX7, rfl, by decide, lay_7, qw_300, tyX7_ok, nmX7, by decide, by decide, by decide, by decide⟩
theorem fl_X0_41 : qFL RX0 41 7 6 := ⟨RX7, TX7, 14, tyX7, rfl, by decide, lay_7, qw_307, tyX7_ok, nmX7, by decide, by decide, by decide, by decide⟩
theorem fl_X0_44 : qFL RX0 44 7 5 := ⟨RX7, TX7, 14, tyX7, rfl, by decide, lay_7, qw_304, tyX7_ok, nmX7, by decide, by decide, by decide, by decide⟩
theorem fl_X0_47 : qFL RX0 47 8 5 := ⟨RX8, TX8, 15, tyX8, rfl, by decide, lay_8, qw_170, tyX8_ok, nmX8, by decide, by decide, by decide, by decide⟩
theorem fl_X0_51 : qFL RX0 51 7 2 := ⟨RX7, TX7, 14, tyX7, rfl, by decide, lay_7, qw_292, tyX7_ok, nmX7, by decide, by decide, by decide, by decide⟩
theorem fl_X0_54 : qFL RX0 54 7 3 := ⟨RX7, TX7, 14, tyX7, rfl, by decide, lay_7, qw_296, tyX7_ok, nmX7, by decide, by decide, by decide, by decide⟩
theorem fl_X0_61 : qFL RX0 61 8 6 := ⟨RX8, TX8, 15, tyX8, rfl, by decide, lay_8, qw_173, tyX8_ok, nmX8, by decide, by decide, by decide, by decide⟩
theorem fl_X0_64 : qFL RX0 64 8 7 := ⟨RX8, TX8, 15, tyX8, rfl, by decide, lay_8, qw_176, tyX8_ok, nmX8, by decide, by decide, by decide, by decide⟩
theorem fl_X1_9 : qFL RX1 9 1 7 := ⟨RX1, TX1, 11, tyX1, rfl, by decide, lay_1, qw_465, tyX1_ok, nmX1, by decide, by decide, by decide, by decide⟩
theorem fl_X1_15 : qFL RX1 15 1 8 := ⟨RX1, TX1, 11, tyX1, rfl, by decide, lay_1, qw_467, tyX1_ok, nmX1, by decide, by decide, by decide, by decide⟩
theorem fl_X1_18 : qFL RX1 18 1 9 := ⟨RX1, TX1, 11, tyX1, rfl, by decide, lay_1, qw_468, tyX1_ok, nmX1, by decide, by decide, by decide, by decide⟩
theorem fl_X1_21 : qFL RX1 21 1 10 := ⟨RX1, TX1, 11, tyX1, rfl, by decide, lay_1, qw_469, tyX1_ok, nmX1, by decide, by decide, by decide, by decide⟩
theorem fl_X1_25 : qFL RX1 25 1 0 := ⟨RX1, TX1, 11, tyX1, rfl, by decide, lay_1, qw_454, tyX1_ok, nmX1, by decide, by decide, by decide, by decide⟩
theorem fl_X1_29 : qFL RX1 29 1 1 := ⟨RX1, TX1, 11, tyX1, rfl, by decide, lay_1, qw_455, tyX1_ok, nmX1, by decide, by decide, by decide, by decide⟩
theorem fl_X1_33 : qFL RX1 33 1 2 := ⟨RX1, TX1, 11, tyX1, rfl, by decide, lay_1, qw_456, tyX1_ok, nmX1, by decide, by decide, by decide, by decide⟩
theorem fl_X1_37 : qFL RX1 37 1 3 := ⟨RX1, TX1, 11, tyX1, rfl, by decide, lay_1, qw_457, tyX1_ok, nmX1, by decide, by decide, by decide, by decide⟩
theorem fl_X1_41 : qFL RX1 41 1 4 := ⟨RX1, TX1, 11, tyX1, rfl, by decide, lay_1, qw_459, tyX1_ok, nmX1, by decide, by decide, by decide, by decide⟩
theorem fl_X1_45 : qFL RX1 45 8 12 := ⟨RX8, TX8, 15, tyX8, rfl, by decide, lay_8, qw_187, tyX8_ok, nmX8, by decide, by decide, by decide, by decide⟩
theorem fl_X1_64 : qFL RX1 64 1 5 := ⟨RX1, TX1, 11, tyX1, rfl, by decide, lay_1, qw_461, tyX1_ok, nmX1, by decide, by decide, by decide, by decide⟩
theorem fl_X1_67 : qFL RX1 67 1 6 := ⟨RX1, TX1, 11, tyX1, rfl, by decide, lay_1, qw_463, tyX1_ok, nmX1, by decide, by decide, by decide, by decide⟩
theorem fl_X1_80 : qFL RX1 80 6 5 := ⟨RX6, TX6, 9, tyX6, rfl, by decide, lay_6, qw_409, tyX6_ok, nmX6, by decide, by decide, by decide, by decide⟩
theorem fl_X1_83 : qFL RX1 83 6 6 := ⟨RX6, TX6, 9, tyX6, rfl, by decide, lay_6, qw_412, tyX6_ok, nmX6, by decide, by decide, by decide, by decide⟩
theorem fl_X1_86 : qFL RX1 86 6 7 := ⟨RX6, TX6, 9, tyX6, rfl, by decide, lay_6, qw_415, tyX6_ok, nmX6, by decide, by decide, by decide, by decide⟩
theorem fl_X2_11 : qFL RX2 11 2 0 := ⟨RX2, TX2, 5, tyX2, rfl, by decide, lay_2, qw_502, tyX2_ok, nmX2, by decide, by decide, by decide, by decide⟩
theorem fl_X2_19 : qFL RX2 19 2 2 := ⟨RX2, TX2, 5, tyX2, rfl, by decide, lay_2, qw_504, tyX2_ok, nmX2, by decide, by decide, by decide, by decide⟩
theorem fl_X2_23 : qFL RX2 23 2 4 := ⟨RX2, TX2, 5, tyX2, rfl, by decide, lay_2, qw_508, tyX2_ok, nmX2, by decide, by decide, by decide, by decide⟩
theorem fl_X2_26 : qFL RX2 26 2 1 := ⟨RX2, TX2, 5, tyX2, rfl, by decide, lay_2, qw_503, tyX2_ok, nmX2, by decide, by decide, by decide, by decide⟩
theorem fl_X3_9 : qFL RX3 9 3 0 := ⟨RX3, TX3, 6, tyX3, rfl, by decide, lay_3, qw_376, tyX3_ok, nmX3, by decide, by decide, by decide, by decide⟩
theorem fl_X3_15 : qFL RX3 15 3 1 := ⟨RX3, TX3, 6, tyX3, rfl, by decide, lay_3, qw_377, tyX3_ok, nmX3, by decide, by decide, by decide, by decide⟩
theorem fl_X3_19 : qFL RX3 19 3 2 := ⟨RX3, TX3, 6, tyX3, rfl, by decide, lay_3, qw_378, tyX3_ok, nmX3, by decide, by decide, by decide, by decide⟩
theorem fl_X3_23 : qFL RX3 23 3 3 := ⟨RX3, TX3, 6, tyX3, rfl, by decide, lay_3, qw_379, tyX3_ok, nmX3, by decide, by decide, by decide, by decide⟩
theorem fl_X3_44 : qFL RX3 44 3 5 := ⟨RX3, TX3, 6, tyX3, rfl, by decide, lay_3, qw_382, tyX3_ok, nmX3, by decide, by decide, by decide, by decide⟩
theorem fl_X3_63 : qFL RX3 63 3 4 := ⟨RX3, TX3, 6, tyX3, rfl, by decide, lay_3, qw_380, tyX3_ok, nmX3, by decide, by decide, by decide, by decide⟩
theorem fl_X3_72 : qFL RX3 72 8 0 := ⟨RX8, TX8, 15, tyX8, rfl, by decide, lay_8, qw_161, tyX8_ok, nmX8, by decide, by decide, by decide, by decide⟩
theorem fl_X3_91 : qFL RX3 91 7 4 := ⟨RX7, TX7, 14, tyX7, rfl, by decide, lay_7, qw_301, tyX7_ok, nmX7, by decide, by decide, by decide, by decide⟩
theorem fl_X3_94 : qFL RX3 94 7 7 := ⟨RX7, TX7, 14, tyX7, rfl, by decide, lay_7, qw_310, tyX7_ok, nmX7, by decide, by decide, by decide, by decide⟩
theorem fl_X3_96 : qFL RX3 96 7 3 := ⟨RX7, TX7, 14, tyX7, rfl, by decide, lay_7, qw_297, tyX7_ok, nmX7, by decide, by decide, by decide, by decide⟩
theorem fl_X3_99 : qFL RX3 99 7 2 := ⟨RX7, TX7, 14, tyX7, rfl, by decide, lay_7, qw_293, tyX7_ok, nmX7, by decide, by decide, by decide, by decide⟩
theorem fl_X3_102 : qFL RX3 102 8 12 := ⟨RX8, TX8, 15, tyX8, rfl, by decide, lay_8, qw_190, tyX8_ok, nmX8, by decide, by decide, by decide, by decide⟩
theorem fl_X3_114 : qFL RX3 114 7 8 := ⟨RX7, TX7, 14, tyX7, rfl, by decide, lay_7, qw_313, tyX7_ok, nmX7, by decide, by decide, by decide, by decide⟩
theorem fl_X4_9 : qFL RX4 9 4 0 := ⟨RX4, TX4, 1, tyX4, rfl, by decide, lay_4, qw_444, tyX4_ok, nmX4, by decide, by decide, by decide, by decide⟩
theorem fl_X4_15 : qFL RX4 15 8 12 := ⟨RX8, TX8, 15, tyX8, rfl, by decide, lay_8, qw_186, tyX8_ok, nmX8, by decide, by decide, by decide, by decide⟩
theorem fl_X5_9 : qFL RX5 9 5 2 := ⟨RX5, TX5, 7, tyX5, rfl, by decide, lay_5, qw_247, tyX5_ok, nmX5, by decide, by decide, by decide, by decide⟩
theorem fl_X5_15 : qFL RX5 15 5 6 := ⟨RX5, TX5, 7, tyX5, rfl, by decide, lay_5, qw_252, tyX5_ok, nmX5, by decide, by decide, by decide, by decide⟩
theorem fl_X5_19 : qFL RX5 19 5 0 := ⟨RX5, TX5, 7, tyX5, rfl, by decide, lay_5, qw_245, tyX5_ok, nmX5, by decide, by decide, by decide, by decide⟩
theorem fl_X5_23 : qFL RX5 23 5 1 := ⟨RX5, TX5, 7, tyX5, rfl, by decide, lay_5, qw_246, tyX5_ok, nmX5, by decide, by decide, by decide, by decide⟩
theorem fl_X5_33 : qFL RX5 33 5 3 := ⟨RX5, TX5, 7, tyX5, rfl, by decide, lay_5, qw_248, tyX5_ok, nmX5, by decide, by decide, by decide, by decide⟩
theorem fl_X5_36 : qFL RX5 36 5 4 := ⟨RX5, TX5, 7, tyX5, rfl, by decide, lay_5, qw_249, tyX5_ok, nmX5, by decide, by decide, by decide, by decide⟩
theorem fl_X5_39 : qFL RX5 39 5 5 := ⟨RX5, TX5, 7, tyX5, rfl, by decide, lay_5, qw_250, tyX5_ok, nmX5, by decide, by decide, by decide, by decide⟩
theorem fl_X6_9 : qFL RX6 9 6 4 := ⟨RX6, TX6, 9, tyX6, rfl, by decide, lay_6, qw_407, tyX6_ok, nmX6, by decide, by decide, by decide, by decide⟩
theorem fl_X6_15 : qFL RX6 15 6 0 := ⟨RX6, TX6, 9, tyX6, rfl, by decide, lay_6, qw_403, tyX6_ok, nmX6, by decide, by decide, by decide, by decide⟩
theorem fl_X6_19 : qFL RX6 19 6 1 := ⟨RX6, TX6, 9, tyX6, rfl, by decide, lay_6, qw_404, tyX6_ok, nmX6, by decide, by decide, by decide, by decide⟩
theorem fl_X6_23 : qFL RX6 23 6 2 := ⟨RX6, TX6, 9, tyX6, rfl, by decide, lay_6, qw_405, tyX6_ok, nmX6, by decide, by decide, by decide, by decide⟩
theorem fl_X6_27 : qFL RX6 27 6 3 := ⟨RX6, TX6, 9, tyX6, rfl, by decide, lay_6, qw_406, tyX6_ok, nmX6, by decide, by decide, by decide, by decide⟩
theorem fl_X6_53 : qFL RX6 53 6 5 := ⟨RX6, TX6, 9, tyX6, rfl, by decide, lay_6, qw_408, tyX6_ok, nmX6, by decide, by decide, by decide, by decide⟩
theorem fl_X6_57 : qFL RX6 57 6 6 := ⟨RX6, TX6, 9, tyX6, rfl, by decide, lay_6, qw_411, tyX6_ok, nmX6, by decide, by decide, by decide, by decide⟩
theorem fl_X6_60 : qFL RX6 60 6 7 := ⟨RX6, TX6, 9, tyX6, rfl, by decide, lay_6, qw_414, tyX6_ok, nmX6, by decide, by decide, by decide, by decide⟩
theorem fl_X6_63 : qFL RX6 63 3 5 := ⟨RX3, TX3, 6, tyX3, rfl, by decide, lay_3, qw_383, tyX3_ok, nmX3, by decide, by decide, by decide, by decide⟩
theorem fl_X6_66 : qFL RX6 66 6 8 := ⟨RX6, TX6, 9, tyX6, rfl, by decide, lay_6, qw_417, tyX6_ok, nmX6, by decide, by decide, by decide, by decide⟩
theorem fl_X6_90 : qFL RX6 90 3 4 := ⟨RX3, TX3, 6, tyX3, rfl, by decide, lay_3, qw_381, tyX3_ok, nmX3, by decide, by decide, by decide, by decide⟩
theorem fl_X7_9 : qFL RX7 9 7 2 := ⟨RX7, TX7, 14, tyX7, rfl, by decide, lay_7, qw_291, tyX7_ok, nmX7, by decide, by decide, by decide, by decide⟩
theorem fl_X7_15 : qFL RX7 15 7 3 := ⟨RX7, TX7, 14, tyX7, rfl, by decide, lay_7, qw_295, tyX7_ok, nmX7, by decide, by decide, by decide, by decide⟩
theorem fl_X7_18 : qFL RX7 18 7 4 := ⟨RX7, TX7, 14, tyX7, rfl, by decide, lay_7, qw_299, tyX7_ok, nmX7, by decide, by decide, by decide, by decide⟩
theorem fl_X7_21 : qFL RX7 21 7 5 := ⟨RX7, TX7, 14, tyX7, rfl, by decide, lay_7, qw_303, tyX7_ok, nmX7, by decide, by decide, by decide, by decide⟩
theorem fl_X7_24 : qFL RX7 24 7 6 := ⟨RX7, TX7, 14, tyX7, rfl, by decide, lay_7, qw_306, tyX7_ok, nmX7, by decide, by decide, by decide, by decide⟩
theorem fl_X7_27 : qFL RX7 27 7 7 := ⟨RX7, TX7, 14, tyX7, rfl, by decide, lay_7, qw_309, tyX7_ok, nmX7, by decide, by decide, by decide, by decide⟩
theorem fl_X7_30 : qFL RX7 30 7 8 := ⟨RX7, TX7, 14, tyX7, rfl, by decide, lay_7, qw_312, tyX7_ok, nmX7, by decide, by decide, by decide, by decide⟩
theorem fl_X7_33 : qFL RX7 33 7 9 := ⟨RX7, TX7, 14, tyX7, rfl, by decide, lay_7, qw_315, tyX7_ok, nmX7, by decide, by decide, by decide, by decide⟩
theorem fl_X7_36 : qFL RX7 36 7 0 := ⟨RX7, TX7, 14, tyX7, rfl, by decide, lay_7, qw_289, tyX7_ok, nmX7, by decide, by decide, by decide, by decide⟩
theorem fl_X7_40 : qFL RX7 40 7 1 := ⟨RX7, TX7, 14, tyX7, rfl, by decide, lay_7, qw_290, tyX7_ok, nmX7, by decide, by decide, by decide, by decide⟩
theorem fl_X7_44 : qFL RX7 44 8 12 := ⟨RX8, TX8, 15, tyX8, rfl, by decide, lay_8, qw_189, tyX8_ok, nmX8, by decide, by decide, by decide, by decide⟩
theorem fl_X7_79 : qFL RX7 79 7 11 := ⟨RX7, TX7, 14, tyX7, rfl, by decide, lay_7, qw_321, tyX7_ok, nmX7, by decide, by decide, by decide, by decide⟩
theorem fl_X7_82 : qFL RX7 82 7 12 := ⟨RX7, TX7, 14, tyX7, rfl, by decide, lay_7, qw_322, tyX7_ok, nmX7, by decide, by decide, by decide, by decide⟩
theorem fl_X7_85 : qFL RX7 85 7 13 := ⟨RX7, TX7, 14, tyX7, rfl, by decide, lay_7, qw_323, tyX7_ok, nmX7, by decide, by decide, by decide, by decide⟩
theorem fl_X7_105 : qFL RX7 105 7 10 := ⟨RX7, TX7, 14, tyX7, rfl, by decide, lay_7, qw_319, tyX7_ok, nmX7, by decide, by decide, by decide, by decide⟩
theorem fl_X8_9 : qFL RX8 9 8 0 := ⟨RX8, TX8, 15, tyX8, rfl, by decide, lay_8, qw_160, tyX8_ok, nmX8, by decide, by decide, by decide, by decide⟩
theorem fl_X8_15 : qFL RX8 15 8 3 := ⟨RX8, TX8, 15, tyX8, rfl, by decide, lay_8, qw_167, tyX8_ok, nmX8, by decide, by decide, by decide, by decide⟩
theorem fl_X8_18 : qFL RX8 18 8 4 := ⟨RX8, TX8, 15, tyX8, rfl, by decide, lay_8, qw_168, tyX8_ok, nmX8, by decide, by decide, by decide, by decide⟩
theorem fl_X8_21 : qFL RX8 21 8 6 := ⟨RX8, TX8, 15, tyX8, rfl, by decide, lay_8, qw_172, tyX8_ok, nmX8, by decide, by decide, by decide, by decide⟩
theorem fl_X8_24 : qFL RX8 24 8 7 := ⟨RX8, TX8, 15, tyX8, rfl, by decide, lay_8, qw_175, tyX8_ok, nmX8, by decide, by decide, by decide, by decide⟩
theorem fl_X8_27 : qFL RX8 27 8 9 := ⟨RX8, TX8, 15, tyX8, rfl, by decide, lay_8, qw_181, tyX8_ok, nmX8, by decide, by decide, by decide, by decide⟩
theorem fl_X8_30 : qFL RX8 30 8 10 := ⟨RX8, TX8, 15, tyX8, rfl, by decide, lay_8, qw_183, tyX8_ok, nmX8, by decide, by decide, by decide, by decide⟩
theorem fl_X8_33 : qFL RX8 33 8 11 := ⟨RX8, TX8, 15, tyX8, rfl, by decide, lay_8, qw_185, tyX8_ok, nmX8, by decide, by decide, by decide, by decide⟩
theorem fl_X8_36 : qFL RX8 36 8 13 := ⟨RX8, TX8, 15, tyX8, rfl, by decide, lay_8, qw_192, tyX8_ok, nmX8, by decide, by decide, by decide, by decide⟩
theorem fl_X8_39 : qFL RX8 39 8 14 := ⟨RX8, TX8, 15, tyX8, rfl, by decide, lay_8, qw_193, tyX8_ok, nmX8, by decide, by decide, by decide, by decide⟩
theorem fl_X8_51 : qFL RX8 51 8 1 := ⟨RX8, TX8, 15, tyX8, rfl, by decide, lay_8, qw_164, tyX8_ok, nmX8, by decide, by decide, by decide, by decide⟩
theorem fl_X8_55 : qFL RX8 55 8 2 := ⟨RX8, TX8, 15, tyX8, rfl, by decide, lay_8, qw_165, tyX8_ok, nmX8, by decide, by decide, by decide, by decide⟩
theorem fl_X8_58 : qFL RX8 58 8 5 := ⟨RX8, TX8, 15, tyX8, rfl, by decide, lay_8, qw_169, tyX8_ok, nmX8, by decide, by decide, by decide, by decide⟩
theorem fl_X8_61 : qFL RX8 61 8 8 := ⟨RX8, TX8, 15, tyX8, rfl, by decide, lay_8, qw_178, tyX8_ok, nmX8, by decide, by decide, by decide, by decide⟩
theorem fl_X8_70 : qFL RX8 70 8 12 := ⟨RX8, TX8, 15, tyX8, rfl, by decide, lay_8, qw_188, tyX8_ok, nmX8, by decide, by decide, by decide, by decide⟩
theorem fl_X9_9 : qFL RX9 9 9 1 := ⟨RX9, TX9, 2, tyX9, rfl, by decide, lay_9, qw_276, tyX9_ok, nmX9, by decide, by decide, by decide, by decide⟩
theorem fl_X9_15 : qFL RX9 15 9 0 := ⟨RX9, TX9, 2, tyX9, rfl, by decide, lay_9, qw_275, tyX9_ok, nmX9, by decide, by decide, by decide, by decide⟩
theorem fl_X9_23 : qFL RX9 23 8 8 := ⟨RX8, TX8, 15, tyX8, rfl, by decide, lay_8, qw_179, tyX8_ok, nmX8, by decide, by decide, by decide, by decide⟩
theorem fl_X9_29 : qFL RX9 29 8 9 := ⟨RX8, TX8, 15, tyX8, rfl, by decide, lay_8, qw_182, tyX8_ok, nmX8, by decide, by decide, by decide, by decide⟩
theorem fl_X9_32 : qFL RX9 32 8 10 := ⟨RX8, TX8, 15, tyX8, rfl, by decide, lay_8, qw_184, tyX8_ok, nmX8, by decide, by decide, by decide, by decide⟩
theorem fl_X9_48 : qFL RX9 48 8 0 := ⟨RX8, TX8, 15, tyX8, rfl, by decide, lay_8, qw_162, tyX8_ok, nmX8, by decide, by decide, by decide, by decide⟩
theorem fl_X10_9 : qFL RX10 9 10 0 := ⟨RX10, TX10, 2, tyX10, rfl, by decide, lay_10, qw_527, tyX10_ok, nmX10, by decide, by decide, by decide, by decide⟩
theorem fl_X10_15 : qFL RX10 15 10 1 := ⟨RX10, TX10, 2, tyX10, rfl, by decide, lay_10, qw_529, tyX10_ok, nmX10, by decide, by decide, by decide, by decide⟩
theorem fl_X12_7 : qFL RX12 7 12 0 := ⟨RX12, TX12, 42, tyX12, rfl, by decide, lay_12, qw_1348, tyX12_ok, nmX12, by decide, by decide, by decide, by decide⟩
theorem fl_X12_13 : qFL RX12 13 12 1 := ⟨RX12, TX12, 42, tyX12, rfl, by decide, lay_12, qw_1349, tyX12_ok, nmX12, by decide, by decide, by decide, by decide⟩
theorem fl_X12_16 : qFL RX12 16 12 2 := ⟨RX12, TX12, 42, tyX12, rfl, by decide, lay_12, qw_1350, tyX12_ok, nmX12, by decide, by decide, by decide, by decide⟩
theorem fl_X12_20 : qFL RX12 20 12 3 := ⟨RX12, TX12, 42, tyX12, rfl, by decide, lay_12, qw_1351, tyX12_ok, nmX12, by decide, by decide, by decide, by decide⟩
theorem fl_X12_23 : qFL RX12 23 12 4 := ⟨RX12, TX12, 42, tyX12, rfl, by decide, lay_12, qw_1352, tyX12_ok, nmX12, by decide, by decide, by decide, by decide⟩
theorem fl_X12_26 : qFL RX12 26 12 16 := ⟨RX12, TX12, 42, tyX12, rfl, by decide, lay_12, qw_1364, tyX12_ok, nmX12, by decide, by decide, by decide, by decide⟩
theorem fl_X12_30 : qFL RX12 30 12 18 := ⟨RX12, TX12, 42, tyX12, rfl, by decide, lay_12, qw_1366, tyX12_ok, nmX12, by decide, by decide, by decide, by decide⟩
theorem fl_X12_33 : qFL RX12 33 12 19 := ⟨RX12, TX12, 42, tyX12, rfl, by decide, lay_12, qw_1367, tyX12_ok, nmX12, by decide, by decide, by decide, by decide⟩
theorem fl_X12_36 : qFL RX12 36 12 20 := ⟨RX12, TX12, 42, tyX12, rfl, by decide, lay_12, qw_1368, tyX12_ok, nmX12, by decide, by decide, by decide, by decide⟩
theorem fl_X12_39 : qFL RX12 39 12 21 := ⟨RX12, TX12, 42, tyX12, rfl, by decide, lay_12, qw_1369, tyX12_ok, nmX12, by decide, by decide, by decide, by decide⟩
theorem fl_X12_42 : qFL RX12 42 12 22 := ⟨RX12, TX12, 42, tyX12, rfl, by decide, lay_12, qw_1370, tyX12_ok, nmX12, by decide, by decide, by decide, by decide⟩
theorem fl_X12_45 : qFL RX12 45 12 23 := ⟨RX12, TX12, 42, tyX12, rfl, by decide, lay_12, qw_1371, tyX12_ok, nmX12, by decide, by decide, by decide, by decide⟩
theorem fl_X12_48 : qFL RX12 48 12 24 := ⟨RX12, TX12, 42, tyX12, rfl, by decide, lay_12, qw_1372, tyX12_ok, nmX12, by decide, by decide, by decide, by decide⟩
theorem fl_X12_51 : qFL RX12 51 12 25 := ⟨RX12, TX12, 42, tyX12, rfl, by decide, lay_12, qw_1373, tyX12_ok, nmX12, by decide, by decide, by decide, by decide⟩
theorem fl_X12_54 : qFL RX12 54 12 26 := ⟨RX12, TX12, 42, tyX12, rfl, by decide, lay_12, qw_1374, tyX12_ok, nmX12, by decide, by decide, by decide, by decide⟩
theorem fl_X12_57 : qFL RX12 57 12 29 := ⟨RX12, TX12, 42, tyX12, rfl, by decide, lay_12, qw_1377, tyX12_ok, nmX12, by decide, by decide, by decide, by decide⟩
theorem fl_X12_60 : qFL RX12 60 12 30 := ⟨RX12, TX12, 42, tyX12, rfl, by decide, lay_12, qw_1378, tyX12_ok, nmX12, by decide, by decide, by decide, by decide⟩
theorem fl_X12_64 : qFL RX12 64 12 32 := ⟨RX12, TX12, 42, tyX12, rfl, by decide, lay_12, qw_1380, tyX12_ok, nmX12, by decide, by decide, by decide, by decide⟩
theorem fl_X12_67 : qFL RX12 67 12 33 := ⟨RX12, TX12, 42, tyX12, rfl, by decide, lay_12, qw_1381, tyX12_ok, nmX12, by decide, by decide, by decide, by decide⟩
theorem fl_X12_70 : qFL RX12 70 12 34 := ⟨RX12, TX12, 42, tyX12, rfl, by decide, lay_12, qw_1382, tyX12_ok, nmX12, by decide, by decide, by decide, by decide⟩
theorem fl_X12_73 : qFL RX12 73 12 35 := ⟨RX12, TX12, 42, tyX12, rfl, by decide, lay_12, qw_1383, tyX12_ok, nmX12, by decide, by decide, by decide, by decide⟩
theorem fl_X12_76 : qFL RX12 76 12 36 := ⟨RX12, TX12, 42, tyX12, rfl, by decide, lay_12, qw_1384, tyX12_ok, nmX12, by decide, by decide, by decide, by decide⟩
theorem fl_X12_79 : qFL RX12 79 12 40 := ⟨RX12, TX12, 42, tyX12, rfl, by decide, lay_12, qw_1388, tyX12_ok, nmX12, by decide, by decide, by decide, by decide⟩
theorem fl_X12_88 : qFL RX12 88 12 5 := ⟨RX12, TX12, 42, tyX12, rfl, by decide, lay_12, qw_1353, tyX12_ok, nmX12, by decide, by decide, by decide, by decide⟩
theorem fl_X12_107 : qFL RX12 107 12 6 := ⟨RX12, TX12, 42, tyX12, rfl, by decide, lay_12, qw_1354, tyX12_ok, nmX12, by decide, by decide, by decide, by decide⟩
theorem fl_X12_110 : qFL RX12 110 12 7 := ⟨RX12, TX12, 42, tyX12, rfl, by decide, lay_12, qw_1355, tyX12_ok, nmX12, by decide, by decide, by decide, by decide⟩
theorem fl_X12_117 : qFL RX12 117 12 8 := ⟨RX12, TX12, 42, tyX12, rfl, by decide, lay_12, qw_1356, tyX12_ok, nmX12, by decide, by decide, by decide, by decide⟩
theorem fl_X12_120 : qFL RX12 120 12 9 := ⟨RX12, TX12, 42, tyX12, rfl, by decide, lay_12, qw_1357, tyX12_ok, nmX12, by decide, by decide, by decide, by decide⟩
theorem fl_X12_136 : qFL RX12 136 12 17 := ⟨RX12, TX12, 42, tyX12, rfl, by decide, lay_12, qw_1365, tyX12_ok, nmX12, by decide, by decide, by decide, by decide⟩
theorem fl_X12_144 : qFL RX12 144 12 10 := ⟨RX12, TX12, 42, tyX12, rfl, by decide, lay_12, qw_1358, tyX12_ok, nmX12, by decide, by decide, by decide, by decide⟩
theorem fl_X12_147 : qFL RX12 147 12 11 := ⟨RX12, TX12, 42, tyX12, rfl, by decide, lay_12, qw_1359, tyX12_ok, nmX12, by decide, by decide, by decide, by decide⟩
theorem fl_X12_150 : qFL RX12 150 12 12 := ⟨RX12, TX12, 42, tyX12, rfl, by decide, lay_12, qw_1360, tyX12_ok, nmX12, by decide, by decide, by decide, by decide⟩
theorem fl_X12_157 : qFL RX12 157 12 13 := ⟨RX12, TX12, 42, tyX12, rfl, by decide, lay_12, qw_1361, tyX12_ok, nmX12, by decide, by decide, by decide, by decide⟩
theorem fl_X12_185 : qFL RX12 185 12 14 := ⟨RX12, TX12, 42, tyX12, rfl, by decide, lay_12, qw_1362, tyX12_ok, nmX12, by decide, by decide, by decide, by decide⟩
theorem fl_X12_243 : qFL RX12 243 12 15 := ⟨RX12, TX12, 42, tyX12, rfl, by decide, lay_12, qw_1363, tyX12_ok, nmX12, by decide, by decide, by decide, by decide⟩
theorem fl_X12_252 : qFL RX12 252 12 31 := ⟨RX12, TX12, 42, tyX12, rfl, by decide, lay_12, qw_1379, tyX12_ok, nmX12, by decide, by decide, by decide, by decide⟩
theorem fl_X12_393 : qFL RX12 393 12 28 := ⟨RX12, TX12, 42, tyX12, rfl, by decide, lay_12, qw_1376, tyX12_ok, nmX12, by decide, by decide, by decide, by decide⟩
theorem fl_X12_402 : qFL RX12 402 12 27 := ⟨RX12, TX12, 42, tyX12, rfl, by decide, lay_12, qw_1375, tyX12_ok, nmX12, by decide, by decide, by decide, by decide⟩
theorem fl_X12_444 : qFL RX12 444 12 37 := ⟨RX12, TX12, 42, tyX12, rfl, by decide, lay_12, qw_1385, tyX12_ok, nmX12, by decide, by decide, by decide, by decide⟩
theorem fl_X12_450 : qFL RX12 450 12 38 := ⟨RX12, TX12, 42, tyX12, rfl, by decide, lay_12, qw_1386, tyX12_ok, nmX12, by decide, by decide, by decide, by decide⟩
theorem fl_X12_453 : qFL RX12 453 12 39 := ⟨RX12, TX12, 42, tyX12, rfl, by decide, lay_12, qw_1387, tyX12_ok, nmX12, by decide, by decide, by decide, by decide⟩
theorem fl_X12_506 : qFL RX12 506 12 41 := ⟨RX12, TX12, 42, tyX12, rfl, by decide, lay_12, qw_1389, tyX12_ok, nmX12, by decide, by decide, by decide, by decide⟩
theorem ml_X11_118 : qML RX11 118 yX11_takeBytes cX11_takeBytes 3 none 1 := ⟨qw_586, qw_588, qw_0, qw_125, qw_589, ⟨by decide +kernel, by decide +kernel, by decide +kernel⟩, by decide⟩
theorem ml_X11_122 : qML RX11 122 yX5_readText cX5_readText 4 (some .int) 1 := ⟨qw_594, qw_595, qw_596, qw_129, qw_597, ⟨by decide +kernel, by decide +kernel, by decide +kernel⟩, by decide⟩
theorem ml_X11_126 : qML RX11 126 yX8_takeOver cX8_takeOver 2 none 1 := ⟨qw_739, qw_740, qw_741, qw_126, qw_742, ⟨by decide +kernel, by decide +kernel, by decide +kernel⟩, by decide⟩
theorem ml_X11_129 : qML RX11 129 yX9_reckon cX9_reckon 2 none 0 := ⟨qw_743, qw_744, qw_745, qw_130, qw_746, ⟨by decide +kernel, by decide +kernel, by decide +kernel⟩, by decide⟩
theorem ml_X11_132 : qML RX11 132 yX7_clear cX7_clear 1 none 0 := ⟨qw_761, qw_762, qw_763, qw_131, qw_764, ⟨by decide +kernel, by decide +kernel, by decide +kernel⟩, by decide⟩
theorem ml_X11_135 : qML RX11 135 yX2_forget cX2_forget 1 none 0 := ⟨qw_766, qw_767, qw_768, qw_137, qw_769, ⟨by decide +kernel, by decide +kernel, by decide +kernel⟩, by decide⟩
theorem ml_X11_161 : qML RX11 161 yX7_howMany cX7_howMany 3 (some .int) 0 := ⟨qw_778, qw_779, qw_780, qw_131, qw_781, ⟨by decide +kernel, by decide +kernel, by decide +kernel⟩, by decide⟩
theorem ml_X11_168 : qML RX11 168 yX2_marksMade cX2_marksMade 1 (some .int) 0 := ⟨qw_786, qw_787, qw_788, qw_137, qw_789, ⟨by decide +kernel, by decide +kernel, by decide +kernel⟩, by decide⟩
theorem ml_X11_171 : qML RX11 171 yX11_costOfAll cX11_costOfAll 3 (some .int) 0 := ⟨qw_796, qw_798, qw_12, qw_125, qw_799, ⟨by decide +kernel, by decide +kernel, by decide +kernel⟩, by decide⟩
theorem ml_X11_174 : qML RX11 174 yX7_busyIn cX7_busyIn 5 (some .int) 2 := ⟨qw_814, qw_815, qw_816, qw_131, qw_817, ⟨by decide +kernel, by decide +kernel, by decide +kernel⟩, by decide⟩
theorem ml_X11_178 : qML RX11 178 yX7_has cX7_has 2 (some .boolean) 1 := ⟨qw_800, qw_783, qw_784, qw_131, qw_785, ⟨by decide +kernel, by decide +kernel, by decide +kernel⟩, by decide⟩
theorem ml_X11_182 : qML RX11 182 yX7_costOf cX7_costOf 2 (some .int) 1 := ⟨qw_801, qw_802, qw_803, qw_131, qw_804, ⟨by decide +kernel, by decide +kernel, by decide +kernel⟩, by decide⟩
theorem ml_X11_185 : qML RX11 185 yX11_isMetre cX11_isMetre 2 (some .boolean) 1 := ⟨qw_822, qw_824, qw_13, qw_125, qw_825, ⟨by decide +kernel, by decide +kernel, by decide +kernel⟩, by decide⟩
theorem ml_X11_188 : qML RX11 188 yX8_depthOf cX8_depthOf 5 (some .int) 1 := ⟨qw_826, qw_827, qw_828, qw_126, qw_829, ⟨by decide +kernel, by decide +kernel, by decide +kernel⟩, by decide⟩
theorem ml_X11_191 : qML RX11 191 yX8_shallowest cX8_shallowest 5 (some .int) 2 := ⟨qw_834, qw_835, qw_836, qw_126, qw_837, ⟨by decide +kernel, by decide +kernel, by decide +kernel⟩, by decide⟩
theorem ml_X11_204 : qML RX11 204 yX8_gangsIn cX8_gangsIn 2 (some .int) 1 := ⟨qw_854, qw_855, qw_856, qw_126, qw_857, ⟨by decide +kernel, by decide +kernel, by decide +kernel⟩, by decide⟩
theorem ml_X11_207 : qML RX11 207 yX11_isCrane cX11_isCrane 2 (some .boolean) 1 := ⟨qw_862, qw_864, qw_14, qw_125, qw_865, ⟨by decide +kernel, by decide +kernel, by decide +kernel⟩, by decide⟩
theorem ml_X11_216 : qML RX11 216 yX11_isShip cX11_isShip 2 (some .boolean) 1 := ⟨qw_870, qw_872, qw_15, qw_125, qw_873, ⟨by decide +kernel, by decide +kernel, by decide +kernel⟩, by decide⟩
theorem ml_X11_219 : qML RX11 219 yX8_contractOf cX8_contractOf 3 (some .int) 2 := ⟨qw_874, qw_810, qw_811, qw_126, qw_812, ⟨by decide +kernel, by decide +kernel, by decide +kernel⟩, by decide⟩
theorem ml_X11_222 : qML RX11 222 yX11_stayFact cX11_stayFact 3 (some .int) 2 := ⟨qw_875, qw_877, qw_16, qw_125, qw_878, ⟨by decide +kernel, by decide +kernel, by decide +kernel⟩, by decide⟩
theorem ml_X11_239 : qML RX11 239 yX7_lateOf cX7_lateOf 2 (some .int) 1 := ⟨qw_879, qw_806, qw_807, qw_131, qw_808, ⟨by decide +kernel, by decide +kernel, by decide +kernel⟩, by decide⟩
theorem ml_X11_242 : qML RX11 242 yX8_nameByte cX8_nameByte 3 (some .int) 2 := ⟨qw_884, qw_709, qw_710, qw_126, qw_711, ⟨by decide +kernel, by decide +kernel, by decide +kernel⟩, by decide⟩
theorem ml_X11_248 : qML RX11 248 yX8_movesWith cX8_movesWith 2 (some .int) 1 := ⟨qw_892, qw_893, qw_894, qw_126, qw_895, ⟨by decide +kernel, by decide +kernel, by decide +kernel⟩, by decide⟩
theorem ml_X11_254 : qML RX11 254 yX9_isOpen cX9_isOpen 3 (some .boolean) 2 := ⟨qw_904, qw_905, qw_906, qw_130, qw_907, ⟨by decide +kernel, by decide +kernel, by decide +kernel⟩, by decide⟩
theorem ml_X11_257 : qML RX11 257 yX9_firstOpen cX9_firstOpen 4 (some .int) 2 := ⟨qw_912, qw_913, qw_914, qw_130, qw_915, ⟨by decide +kernel, by decide +kernel, by decide +kernel⟩, by decide⟩
theorem ml_X11_260 : qML RX11 260 yX7_takeUp cX7_takeUp 2 none 1 := ⟨qw_929, qw_930, qw_931, qw_131, qw_932, ⟨by decide +kernel, by decide +kernel, by decide +kernel⟩, by decide⟩
theorem ml_X11_263 : qML RX11 263 yX3_firstBroken cX3_firstBroken 7 (some .int) 4 := ⟨qw_942, qw_943, qw_944, qw_133, qw_945, ⟨by decide +kernel, by decide +kernel, by decide +kernel⟩, by decide⟩
theorem ml_X11_267 : qML RX11 267 yX7_layBack cX7_layBack 2 none 1 := ⟨qw_1013, qw_1014, qw_1015, qw_131, qw_1016, ⟨by decide +kernel, by decide +kernel, by decide +kernel⟩, by decide⟩
theorem ml_X11_270 : qML RX11 270 yX3_fits cX3_fits 3 (some .boolean) 2 := ⟨qw_1028, qw_947, qw_948, qw_133, qw_949, ⟨by decide +kernel, by decide +kernel, by decide +kernel⟩, by decide⟩
theorem ml_X11_273 : qML RX11 273 yX3_ofTime cX3_ofTime 4 (some .int) 3 := ⟨qw_1029, qw_952, qw_953, qw_133, qw_954, ⟨by decide +kernel, by decide +kernel, by decide +kernel⟩, by decide⟩
theorem ml_X11_277 : qML RX11 277 yX3_crowds cX3_crowds 7 (some .boolean) 4 := ⟨qw_1030, qw_978, qw_979, qw_133, qw_980, ⟨by decide +kernel, by decide +kernel, by decide +kernel⟩, by decide⟩
theorem ml_X11_281 : qML RX11 281 yX6_find cX6_find 8 (some .boolean) 3 := ⟨qw_1035, qw_1036, qw_1037, qw_134, qw_1038, ⟨by decide +kernel, by decide +kernel, by decide +kernel⟩, by decide⟩
theorem ml_X11_295 : qML RX11 295 yX7_save cX7_save 3 none 1 := ⟨qw_1067, qw_1068, qw_1069, qw_131, qw_1070, ⟨by decide +kernel, by decide +kernel, by decide +kernel⟩, by decide⟩
theorem ml_X11_299 : qML RX11 299 yX7_lay cX7_lay 5 none 4 := ⟨qw_1071, qw_1018, qw_1019, qw_131, qw_1020, ⟨by decide +kernel, by decide +kernel, by decide +kernel⟩, by decide⟩
theorem ml_X11_303 : qML RX11 303 yX11_keepAct cX11_keepAct 1 none 0 := ⟨qw_1072, qw_1074, qw_21, qw_125, qw_1075, ⟨by decide +kernel, by decide +kernel, by decide +kernel⟩, by decide⟩
theorem ml_X11_306 : qML RX11 306 yX2_keep cX2_keep 3 none 1 := ⟨qw_1076, qw_1077, qw_1078, qw_137, qw_1079, ⟨by decide +kernel, by decide +kernel, by decide +kernel⟩, by decide⟩
theorem ml_X11_309 : qML RX11 309 yX11_layByItself cX11_layByItself 2 (some .boolean) 1 := ⟨qw_1085, qw_1087, qw_22, qw_125, qw_1088, ⟨by decide +kernel, by decide +kernel, by decide +kernel⟩, by decide⟩
theorem ml_X11_313 : qML RX11 313 yX7_lift cX7_lift 2 none 1 := ⟨qw_1093, qw_934, qw_935, qw_131, qw_936, ⟨by decide +kernel, by decide +kernel, by decide +kernel⟩, by decide⟩
theorem ml_X11_332 : qML RX11 332 yX11_layLawful cX11_layLawful 6 (some .int) 4 := ⟨qw_1113, qw_1115, qw_23, qw_125, qw_1116, ⟨by decide +kernel, by decide +kernel, by decide +kernel⟩, by decide⟩
theorem ml_X11_335 : qML RX11 335 yX7_load cX7_load 3 none 1 := ⟨qw_1117, qw_1118, qw_1119, qw_131, qw_1120, ⟨by decide +kernel, by decide +kernel, by decide +kernel⟩, by decide⟩
theorem ml_X11_338 : qML RX11 338 yX11_nextByOldSlot cX11_nextByOldSlot 8 (some .int) 2 := ⟨qw_1126, qw_1128, qw_24, qw_125, qw_1129, ⟨by decide +kernel, by decide +kernel, by decide +kernel⟩, by decide⟩
theorem ml_X11_341 : qML RX11 341 yX11_drawEarlier cX11_drawEarlier 6 (some .boolean) 1 := ⟨qw_1130, qw_1132, qw_25, qw_125, qw_1133, ⟨by decide +kernel, by decide +kernel, by decide +kernel⟩, by decide⟩
theorem ml_X11_347 : qML RX11 347 yX4_shipAt cX4_shipAt 4 (some .int) 2 := ⟨qw_1157, qw_1158, qw_1159, qw_135, qw_1160, ⟨by decide +kernel, by decide +kernel, by decide +kernel⟩, by decide⟩
theorem ml_X11_350 : qML RX11 350 yX1_reckon cX1_reckon 2 none 0 := ⟨qw_1178, qw_1179, qw_1180, qw_136, qw_1181, ⟨by decide +kernel, by decide +kernel, by decide +kernel⟩, by decide⟩
theorem ml_X11_361 : qML RX11 361 yX7_liesIn cX7_liesIn 3 (some .boolean) 2 := ⟨qw_1201, qw_1202, qw_1203, qw_131, qw_1204, ⟨by decide +kernel, by decide +kernel, by decide +kernel⟩, by decide⟩
theorem ml_X11_367 : qML RX11 367 yX7_lineUp cX7_lineUp 3 none 0 := ⟨qw_1209, qw_997, qw_998, qw_131, qw_999, ⟨by decide +kernel, by decide +kernel, by decide +kernel⟩, by decide⟩
theorem ml_X11_376 : qML RX11 376 yX0_deal cX0_deal 7 (some .boolean) 2 := ⟨qw_1218, qw_1001, qw_1002, qw_132, qw_1003, ⟨by decide +kernel, by decide +kernel, by decide +kernel⟩, by decide⟩
theorem ml_X11_385 : qML RX11 385 yX7_movedAhead cX7_movedAhead 4 (some .int) 2 := ⟨qw_1227, qw_1228, qw_1229, qw_131, qw_1230, ⟨by decide +kernel, by decide +kernel, by decide +kernel⟩, by decide⟩
theorem ml_X11_388 : qML RX11 388 yX11_movedIn cX11_movedIn 5 (some .int) 1 := ⟨qw_1236, qw_1238, qw_29, qw_125, qw_1239, ⟨by decide +kernel, by decide +kernel, by decide +kernel⟩, by decide⟩
theorem ml_X11_391 : qML RX11 391 yX7_busiestIn cX7_busiestIn 5 (some .int) 2 := ⟨qw_1240, qw_1241, qw_1242, qw_131, qw_1243, ⟨by decide +kernel, by decide +kernel, by decide +kernel⟩, by decide⟩
theorem ml_X11_394 : qML RX11 394 yX7_slotsIn cX7_slotsIn 4 (some .int) 3 := ⟨qw_1256, qw_1257, qw_1258, qw_131, qw_1259, ⟨by decide +kernel, by decide +kernel, by decide +kernel⟩, by decide⟩
theorem ml_X11_399 : qML RX11 399 yX11_rankShare cX11_rankShare 3 (some .int) 2 := ⟨qw_1265, qw_1267, qw_30, qw_125, qw_1268, ⟨by decide +kernel, by decide +kernel, by decide +kernel⟩, by decide⟩
theorem ml_X11_402 : qML RX11 402 yX11_leaversAhead cX11_leaversAhead 5 (some .int) 1 := ⟨qw_1273, qw_1275, qw_31, qw_125, qw_1276, ⟨by decide +kernel, by decide +kernel, by decide +kernel⟩, by decide⟩
theorem ml_X11_408 : qML RX11 408 yX10_add cX10_add 2 none 1 := ⟨qw_1285, qw_1286, qw_1287, qw_138, qw_1288, ⟨by decide +kernel, by decide +kernel, by decide +kernel⟩, by decide⟩
theorem ml_X11_411 : qML RX11 411 yX10_addNumber cX10_addNumber 2 none 1 := ⟨qw_1289, qw_1290, qw_1291, qw_138, qw_1292, ⟨by decide +kernel, by decide +kernel, by decide +kernel⟩, by decide⟩
theorem ml_X11_417 : qML RX11 417 yX2_isMade cX2_isMade 2 (some .boolean) 1 := ⟨qw_1302, qw_1303, qw_1304, qw_137, qw_1305, ⟨by decide +kernel, by decide +kernel, by decide +kernel⟩, by decide⟩
theorem ml_X11_424 : qML RX11 424 yX7_isAsSaved cX7_isAsSaved 3 (some .boolean) 2 := ⟨qw_1306, qw_1307, qw_1308, qw_131, qw_1309, ⟨by decide +kernel, by decide +kernel, by decide +kernel⟩, by decide⟩
theorem ml_X11_428 : qML RX11 428 yX2_takeLatest cX2_takeLatest 2 (some .boolean) 1 := ⟨qw_1314, qw_1315, qw_1316, qw_137, qw_1317, ⟨by decide +kernel, by decide +kernel, by decide +kernel⟩, by decide⟩
theorem ml_X0_57 : qML RX0 57 yX0_reaches cX0_reaches 4 (some .boolean) 3 := ⟨qw_1005, qw_1007, qw_18, qw_132, qw_1008, ⟨by decide +kernel, by decide +kernel, by decide +kernel⟩, by decide⟩
theorem ml_X0_67 : qML RX0 67 yX7_propose cX7_propose 6 none 5 := ⟨qw_992, qw_993, qw_994, qw_131, qw_995, ⟨by decide +kernel, by decide +kernel, by decide +kernel⟩, by decide⟩
theorem ml_X0_71 : qML RX0 71 yX7_lineUp cX7_lineUp 3 none 0 := ⟨qw_996, qw_997, qw_998, qw_131, qw_999, ⟨by decide +kernel, by decide +kernel, by decide +kernel⟩, by decide⟩
theorem ml_X0_74 : qML RX0 74 yX0_deal cX0_deal 7 (some .boolean) 2 := ⟨qw_1000, qw_1001, qw_1002, qw_132, qw_1003, ⟨by decide +kernel, by decide +kernel, by decide +kernel⟩, by decide⟩
theorem ml_X0_78 : qML RX0 78 yX7_withdraw cX7_withdraw 2 none 1 := ⟨qw_1009, qw_1010, qw_1011, qw_131, qw_1012, ⟨by decide +kernel, by decide +kernel, by decide +kernel⟩, by decide⟩
theorem ml_X1_48 : qML RX1 48 yX7_has cX7_has 2 (some .boolean) 1 := ⟨qw_1182, qw_783, qw_784, qw_131, qw_785, ⟨by decide +kernel, by decide +kernel, by decide +kernel⟩, by decide⟩
theorem ml_X1_54 : qML RX1 54 yX8_contractOf cX8_contractOf 3 (some .int) 2 := ⟨qw_1183, qw_810, qw_811, qw_126, qw_812, ⟨by decide +kernel, by decide +kernel, by decide +kernel⟩, by decide⟩
theorem ml_X1_58 : qML RX1 58 yX6_find cX6_find 8 (some .boolean) 3 := ⟨qw_1184, qw_1036, qw_1037, qw_134, qw_1038, ⟨by decide +kernel, by decide +kernel, by decide +kernel⟩, by decide⟩
theorem ml_X1_70 : qML RX1 70 yX1_tryFrom cX1_tryFrom 7 none 4 := ⟨qw_1185, qw_1187, qw_28, qw_136, qw_1188, ⟨by decide +kernel, by decide +kernel, by decide +kernel⟩, by decide⟩
theorem ml_X1_89 : qML RX1 89 yX7_lay cX7_lay 5 none 4 := ⟨qw_1190, qw_1018, qw_1019, qw_131, qw_1020, ⟨by decide +kernel, by decide +kernel, by decide +kernel⟩, by decide⟩
theorem ml_X1_92 : qML RX1 92 yX7_costOf cX7_costOf 2 (some .int) 1 := ⟨qw_1191, qw_802, qw_803, qw_131, qw_804, ⟨by decide +kernel, by decide +kernel, by decide +kernel⟩, by decide⟩
theorem ml_X1_96 : qML RX1 96 yX7_lift cX7_lift 2 none 1 := ⟨qw_1192, qw_934, qw_935, qw_131, qw_936, ⟨by decide +kernel, by decide +kernel, by decide +kernel⟩, by decide⟩
theorem ml_X3_27 : qML RX3 27 yX3_fits cX3_fits 3 (some .boolean) 2 := ⟨qw_946, qw_947, qw_948, qw_133, qw_949, ⟨by decide +kernel, by decide +kernel, by decide +kernel⟩, by decide⟩
theorem ml_X3_31 : qML RX3 31 yX3_ofTime cX3_ofTime 4 (some .int) 3 := ⟨qw_951, qw_952, qw_953, qw_133, qw_954, ⟨by decide +kernel, by decide +kernel, by decide +kernel⟩, by decide⟩
theorem ml_X3_35 : qML RX3 35 yX8_contractOf cX8_contractOf 3 (some .int) 2 := ⟨qw_950, qw_810, qw_811, qw_126, qw_812, ⟨by decide +kernel, by decide +kernel, by decide +kernel⟩, by decide⟩
theorem ml_X3_41 : qML RX3 41 yX8_shallowest cX8_shallowest 5 (some .int) 2 := ⟨qw_963, qw_835, qw_836, qw_126, qw_837, ⟨by decide +kernel, by decide +kernel, by decide +kernel⟩, by decide⟩
theorem ml_X3_48 : qML RX3 48 yX9_lowest cX9_lowest 5 (some .int) 2 := ⟨qw_964, qw_965, qw_966, qw_130, qw_967, ⟨by decide +kernel, by decide +kernel, by decide +kernel⟩, by decide⟩
theorem ml_X3_53 : qML RX3 53 yX8_waterNeededBy cX8_waterNeededBy 2 (some .int) 1 := ⟨qw_969, qw_970, qw_971, qw_126, qw_972, ⟨by decide +kernel, by decide +kernel, by decide +kernel⟩, by decide⟩
theorem ml_X3_57 : qML RX3 57 yX3_pastObstacle cX3_pastObstacle 5 (some .int) 3 := ⟨qw_973, qw_974, qw_975, qw_133, qw_976, ⟨by decide +kernel, by decide +kernel, by decide +kernel⟩, by decide⟩
theorem ml_X3_60 : qML RX3 60 yX3_firstShort cX3_firstShort 5 (some .int) 2 := ⟨qw_982, qw_983, qw_984, qw_133, qw_985, ⟨by decide +kernel, by decide +kernel, by decide +kernel⟩, by decide⟩
theorem ml_X3_66 : qML RX3 66 yX0_suffices cX0_suffices 9 (some .boolean) 5 := ⟨qw_988, qw_989, qw_990, qw_132, qw_991, ⟨by decide +kernel, by decide +kernel, by decide +kernel⟩, by decide⟩
theorem ml_X3_76 : qML RX3 76 yX9_isOpen cX9_isOpen 3 (some .boolean) 2 := ⟨qw_955, qw_905, qw_906, qw_130, qw_907, ⟨by decide +kernel, by decide +kernel, by decide +kernel⟩, by decide⟩
theorem ml_X3_79 : qML RX3 79 yX8_workWith cX8_workWith 4 (some .int) 2 := ⟨qw_956, qw_957, qw_958, qw_126, qw_959, ⟨by decide +kernel, by decide +kernel, by decide +kernel⟩, by decide⟩
theorem ml_X3_82 : qML RX3 82 yX9_firstOpen cX9_firstOpen 4 (some .int) 2 := ⟨qw_962, qw_913, qw_914, qw_130, qw_915, ⟨by decide +kernel, by decide +kernel, by decide +kernel⟩, by decide⟩
theorem ml_X3_85 : qML RX3 85 yX7_has cX7_has 2 (some .boolean) 1 := ⟨qw_981, qw_783, qw_784, qw_131, qw_785, ⟨by decide +kernel, by decide +kernel, by decide +kernel⟩, by decide⟩
theorem ml_X3_105 : qML RX3 105 yX3_crowds cX3_crowds 7 (some .boolean) 4 := ⟨qw_977, qw_978, qw_979, qw_133, qw_980, ⟨by decide +kernel, by decide +kernel, by decide +kernel⟩, by decide⟩
theorem ml_X3_117 : qML RX3 117 yX8_gangsIn cX8_gangsIn 2 (some .int) 1 := ⟨qw_987, qw_855, qw_856, qw_126, qw_857, ⟨by decide +kernel, by decide +kernel, by decide +kernel⟩, by decide⟩
theorem ml_X4_21 : qML RX4 21 yX4_shipsAhead cX4_shipsAhead 7 (some .int) 2 := ⟨qw_1161, qw_1163, qw_26, qw_135, qw_1164, ⟨by decide +kernel, by decide +kernel, by decide +kernel⟩, by decide⟩
theorem ml_X4_25 : qML RX4 25 yX4_keyOf cX4_keyOf 3 (some .int) 2 := ⟨qw_1165, qw_1167, qw_27, qw_135, qw_1168, ⟨by decide +kernel, by decide +kernel, by decide +kernel⟩, by decide⟩
theorem ml_X4_28 : qML RX4 28 yX8_contractOf cX8_contractOf 3 (some .int) 2 := ⟨qw_1169, qw_810, qw_811, qw_126, qw_812, ⟨by decide +kernel, by decide +kernel, by decide +kernel⟩, by decide⟩
theorem ml_X5_42 : qML RX5 42 yX8_forget cX8_forget 1 none 0 := ⟨qw_601, qw_228, qw_229, qw_126, qw_230, ⟨by decide +kernel, by decide +kernel, by decide +kernel⟩, by decide⟩
theorem ml_X5_47 : qML RX5 47 yX5_skipBlanks cX5_skipBlanks 1 none 0 := ⟨qw_602, qw_604, qw_1, qw_129, qw_605, ⟨by decide +kernel, by decide +kernel, by decide +kernel⟩, by decide⟩
theorem ml_X5_50 : qML RX5 50 yX5_readLine cX5_readLine 4 (some .boolean) 0 := ⟨qw_606, qw_608, qw_2, qw_129, qw_609, ⟨by decide +kernel, by decide +kernel, by decide +kernel⟩, by decide⟩
theorem ml_X5_54 : qML RX5 54 yX5_passRow cX5_passRow 4 (some .int) 2 := ⟨qw_610, qw_612, qw_3, qw_129, qw_613, ⟨by decide +kernel, by decide +kernel, by decide +kernel⟩, by decide⟩
theorem ml_X5_58 : qML RX5 58 yX5_lineKind cX5_lineKind 4 (some .int) 2 := ⟨qw_614, qw_616, qw_4, qw_129, qw_617, ⟨by decide +kernel, by decide +kernel, by decide +kernel⟩, by decide⟩
theorem ml_X5_61 : qML RX5 61 yX5_refuse cX5_refuse 3 (some .boolean) 2 := ⟨qw_684, qw_686, qw_6, qw_129, qw_687, ⟨by decide +kernel, by decide +kernel, by decide +kernel⟩, by decide⟩
theorem ml_X5_65 : qML RX5 65 yX8_isSetAlready cX8_isSetAlready 2 (some .boolean) 1 := ⟨qw_688, qw_689, qw_690, qw_126, qw_691, ⟨by decide +kernel, by decide +kernel, by decide +kernel⟩, by decide⟩
theorem ml_X5_69 : qML RX5 69 yX8_isFull cX8_isFull 2 (some .boolean) 1 := ⟨qw_692, qw_693, qw_694, qw_126, qw_695, ⟨by decide +kernel, by decide +kernel, by decide +kernel⟩, by decide⟩
theorem ml_X5_72 : qML RX5 72 yX5_readName cX5_readName 3 (some .boolean) 0 := ⟨qw_696, qw_698, qw_7, qw_129, qw_699, ⟨by decide +kernel, by decide +kernel, by decide +kernel⟩, by decide⟩
theorem ml_X5_78 : qML RX5 78 yX5_readNumber cX5_readNumber 8 (some .boolean) 2 := ⟨qw_714, qw_716, qw_8, qw_129, qw_717, ⟨by decide +kernel, by decide +kernel, by decide +kernel⟩, by decide⟩
theorem ml_X5_81 : qML RX5 81 yX8_take cX8_take 3 none 2 := ⟨qw_735, qw_736, qw_737, qw_126, qw_738, ⟨by decide +kernel, by decide +kernel, by decide +kernel⟩, by decide⟩
theorem ml_X5_85 : qML RX5 85 yX8_nameNextShip cX8_nameNextShip 5 none 3 := ⟨qw_700, qw_701, qw_702, qw_126, qw_703, ⟨by decide +kernel, by decide +kernel, by decide +kernel⟩, by decide⟩
theorem ml_X5_89 : qML RX5 89 yX8_isNextNameToldAlready cX8_isNextNameToldAlready 3 (some .boolean) 0 := ⟨qw_704, qw_705, qw_706, qw_126, qw_707, ⟨by decide +kernel, by decide +kernel, by decide +kernel⟩, by decide⟩
theorem ml_X5_92 : qML RX5 92 yX5_leastNumber cX5_leastNumber 3 (some .int) 2 := ⟨qw_718, qw_720, qw_9, qw_129, qw_721, ⟨by decide +kernel, by decide +kernel, by decide +kernel⟩, by decide⟩
theorem ml_X5_101 : qML RX5 101 yX8_isToldAlready cX8_isToldAlready 4 (some .boolean) 3 := ⟨qw_728, qw_729, qw_730, qw_126, qw_731, ⟨by decide +kernel, by decide +kernel, by decide +kernel⟩, by decide⟩
theorem ml_X5_112 : qML RX5 112 yX5_isWord cX5_isWord 5 (some .boolean) 3 := ⟨qw_632, qw_634, qw_5, qw_129, qw_635, ⟨by decide +kernel, by decide +kernel, by decide +kernel⟩, by decide⟩
theorem ml_X5_116 : qML RX5 116 yJ0_length_8abf5 cJ0_length_8abf5 1 (some .int) 0 := ⟨qw_636, qw_637, qw_638, qw_141, qw_639, ⟨by decide +kernel, by decide +kernel, by decide +kernel⟩, by decide⟩
theorem ml_X5_121 : qML RX5 121 yJ0_charAt_5068e cJ0_charAt_5068e 2 (some .char) 1 := ⟨qw_646, qw_647, qw_648, qw_141, qw_649, ⟨by decide +kernel, by decide +kernel, by decide +kernel⟩, by decide⟩
theorem ml_X6_31 : qML RX6 31 yX6_survey cX6_survey 8 (some .boolean) 2 := ⟨qw_1039, qw_1041, qw_19, qw_134, qw_1042, ⟨by decide +kernel, by decide +kernel, by decide +kernel⟩, by decide⟩
theorem ml_X6_35 : qML RX6 35 yX8_contractOf cX8_contractOf 3 (some .int) 2 := ⟨qw_1043, qw_810, qw_811, qw_126, qw_812, ⟨by decide +kernel, by decide +kernel, by decide +kernel⟩, by decide⟩
theorem ml_X6_41 : qML RX6 41 yX3_ofTime cX3_ofTime 4 (some .int) 3 := ⟨qw_1050, qw_952, qw_953, qw_133, qw_954, ⟨by decide +kernel, by decide +kernel, by decide +kernel⟩, by decide⟩
theorem ml_X6_47 : qML RX6 47 yX3_firstShort cX3_firstShort 5 (some .int) 2 := ⟨qw_1051, qw_983, qw_984, qw_133, qw_985, ⟨by decide +kernel, by decide +kernel, by decide +kernel⟩, by decide⟩
theorem ml_X6_50 : qML RX6 50 yX6_firstMetre cX6_firstMetre 9 (some .int) 3 := ⟨qw_1052, qw_1054, qw_20, qw_134, qw_1055, ⟨by decide +kernel, by decide +kernel, by decide +kernel⟩, by decide⟩
theorem ml_X6_67 : qML RX6 67 yX3_fits cX3_fits 3 (some .boolean) 2 := ⟨qw_1044, qw_947, qw_948, qw_133, qw_949, ⟨by decide +kernel, by decide +kernel, by decide +kernel⟩, by decide⟩
theorem ml_X6_70 : qML RX6 70 yX0_reaching cX0_reaching 5 (some .int) 2 := ⟨qw_1045, qw_1046, qw_1047, qw_132, qw_1048, ⟨by decide +kernel, by decide +kernel, by decide +kernel⟩, by decide⟩
theorem ml_X6_75 : qML RX6 75 yX8_shallowest cX8_shallowest 5 (some .int) 2 := ⟨qw_1049, qw_835, qw_836, qw_126, qw_837, ⟨by decide +kernel, by decide +kernel, by decide +kernel⟩, by decide⟩
theorem ml_X6_78 : qML RX6 78 yX9_lowest cX9_lowest 5 (some .int) 2 := ⟨qw_1056, qw_965, qw_966, qw_130, qw_967, ⟨by decide +kernel, by decide +kernel, by decide +kernel⟩, by decide⟩
theorem ml_X6_83 : qML RX6 83 yX8_waterNeededBy cX8_waterNeededBy 2 (some .int) 1 := ⟨qw_1057, qw_970, qw_971, qw_126, qw_972, ⟨by decide +kernel, by decide +kernel, by decide +kernel⟩, by decide⟩
theorem ml_X6_87 : qML RX6 87 yX3_pastObstacle cX3_pastObstacle 5 (some .int) 3 := ⟨qw_1058, qw_974, qw_975, qw_133, qw_976, ⟨by decide +kernel, by decide +kernel, by decide +kernel⟩, by decide⟩
theorem ml_X6_93 : qML RX6 93 yX0_suffices cX0_suffices 9 (some .boolean) 5 := ⟨qw_1059, qw_989, qw_990, qw_132, qw_991, ⟨by decide +kernel, by decide +kernel, by decide +kernel⟩, by decide⟩
theorem ml_X7_50 : qML RX7 50 yX7_has cX7_has 2 (some .boolean) 1 := ⟨qw_782, qw_783, qw_784, qw_131, qw_785, ⟨by decide +kernel, by decide +kernel, by decide +kernel⟩, by decide⟩
theorem ml_X7_54 : qML RX7 54 yX8_contractOf cX8_contractOf 3 (some .int) 2 := ⟨qw_809, qw_810, qw_811, qw_126, qw_812, ⟨by decide +kernel, by decide +kernel, by decide +kernel⟩, by decide⟩
theorem ml_X7_58 : qML RX7 58 yX8_workWith cX8_workWith 4 (some .int) 2 := ⟨qw_1021, qw_957, qw_958, qw_126, qw_959, ⟨by decide +kernel, by decide +kernel, by decide +kernel⟩, by decide⟩
theorem ml_X7_61 : qML RX7 61 yX7_propose cX7_propose 6 none 5 := ⟨qw_1022, qw_993, qw_994, qw_131, qw_995, ⟨by decide +kernel, by decide +kernel, by decide +kernel⟩, by decide⟩
theorem ml_X7_65 : qML RX7 65 yX9_firstOpen cX9_firstOpen 4 (some .int) 2 := ⟨qw_1023, qw_913, qw_914, qw_130, qw_915, ⟨by decide +kernel, by decide +kernel, by decide +kernel⟩, by decide⟩
theorem ml_X7_70 : qML RX7 70 yX7_addBusy cX7_addBusy 5 none 2 := ⟨qw_937, qw_939, qw_17, qw_131, qw_940, ⟨by decide +kernel, by decide +kernel, by decide +kernel⟩, by decide⟩
theorem ml_X7_88 : qML RX7 88 yX7_lift cX7_lift 2 none 1 := ⟨qw_933, qw_934, qw_935, qw_131, qw_936, ⟨by decide +kernel, by decide +kernel, by decide +kernel⟩, by decide⟩
theorem ml_X7_92 : qML RX7 92 yX7_lay cX7_lay 5 none 4 := ⟨qw_1017, qw_1018, qw_1019, qw_131, qw_1020, ⟨by decide +kernel, by decide +kernel, by decide +kernel⟩, by decide⟩
theorem ml_X7_102 : qML RX7 102 yX7_clear cX7_clear 1 none 0 := ⟨qw_1121, qw_762, qw_763, qw_131, qw_764, ⟨by decide +kernel, by decide +kernel, by decide +kernel⟩, by decide⟩
theorem ml_X7_111 : qML RX7 111 yX8_movesWith cX8_movesWith 2 (some .int) 1 := ⟨qw_1231, qw_893, qw_894, qw_126, qw_895, ⟨by decide +kernel, by decide +kernel, by decide +kernel⟩, by decide⟩
theorem ml_X7_115 : qML RX7 115 yX7_lateOf cX7_lateOf 2 (some .int) 1 := ⟨qw_805, qw_806, qw_807, qw_131, qw_808, ⟨by decide +kernel, by decide +kernel, by decide +kernel⟩, by decide⟩
theorem ml_X8_77 : qML RX8 77 yX8_nameByte cX8_nameByte 3 (some .int) 2 := ⟨qw_708, qw_709, qw_710, qw_126, qw_711, ⟨by decide +kernel, by decide +kernel, by decide +kernel⟩, by decide⟩
theorem ml_X8_81 : qML RX8 81 yX8_depthOf cX8_depthOf 5 (some .int) 1 := ⟨qw_838, qw_827, qw_828, qw_126, qw_829, ⟨by decide +kernel, by decide +kernel, by decide +kernel⟩, by decide⟩
theorem ml_X8_93 : qML RX8 93 yX8_movesWith cX8_movesWith 2 (some .int) 1 := ⟨qw_960, qw_893, qw_894, qw_126, qw_895, ⟨by decide +kernel, by decide +kernel, by decide +kernel⟩, by decide⟩
theorem ml_X8_96 : qML RX8 96 yX8_contractOf cX8_contractOf 3 (some .int) 2 := ⟨qw_961, qw_810, qw_811, qw_126, qw_812, ⟨by decide +kernel, by decide +kernel, by decide +kernel⟩, by decide⟩
theorem ml_X9_19 : qML RX9 19 yX9_levelAt cX9_levelAt 6 (some .int) 1 := ⟨qw_747, qw_749, qw_10, qw_130, qw_750, ⟨by decide +kernel, by decide +kernel, by decide +kernel⟩, by decide⟩
theorem ml_X9_35 : qML RX9 35 yX9_between cX9_between 7 (some .int) 3 := ⟨qw_751, qw_753, qw_11, qw_130, qw_754, ⟨by decide +kernel, by decide +kernel, by decide +kernel⟩, by decide⟩
theorem ml_X9_51 : qML RX9 51 yX9_isOpen cX9_isOpen 3 (some .boolean) 2 := ⟨qw_916, qw_905, qw_906, qw_130, qw_907, ⟨by decide +kernel, by decide +kernel, by decide +kernel⟩, by decide⟩
theorem ml_X10_19 : qML RX10 19 yX10_add cX10_add 2 none 1 := ⟨qw_1293, qw_1286, qw_1287, qw_138, qw_1288, ⟨by decide +kernel, by decide +kernel, by decide +kernel⟩, by decide⟩
theorem ml_X12_82 : qML RX12 82 yX12_blank cX12_blank 2 none 0 := ⟨qw_1332, qw_1334, qw_32, qw_139, qw_1335, ⟨by decide +kernel, by decide +kernel, by decide +kernel⟩, by decide⟩
theorem ml_X12_85 : qML RX12 85 yX12_stands cX12_stands 2 none 0 := ⟨qw_1336, qw_1338, qw_33, qw_139, qw_1339, ⟨by decide +kernel, by decide +kernel, by decide +kernel⟩, by decide⟩
theorem ml_X12_91 : qML RX12 91 yX12_four cX12_four 3 none 1 := ⟨qw_1480, qw_1482, qw_36, qw_139, qw_1483, ⟨by decide +kernel, by decide +kernel, by decide +kernel⟩, by decide⟩
theorem ml_X12_113 : qML RX12 113 yX12_byteAt cX12_byteAt 2 (some .int) 1 := ⟨qw_1492, qw_1494, qw_38, qw_139, qw_1495, ⟨by decide +kernel, by decide +kernel, by decide +kernel⟩, by decide⟩
theorem ml_X12_127 : qML RX12 127 yX12_letters cX12_letters 3 none 0 := ⟨qw_1504, qw_1506, qw_39, qw_139, qw_1507, ⟨by decide +kernel, by decide +kernel, by decide +kernel⟩, by decide⟩
theorem ml_X12_133 : qML RX12 133 yX12_digits cX12_digits 3 none 0 := ⟨qw_1515, qw_1517, qw_40, qw_139, qw_1518, ⟨by decide +kernel, by decide +kernel, by decide +kernel⟩, by decide⟩
theorem ml_X12_153 : qML RX12 153 yX12_fail cX12_fail 3 none 2 := ⟨qw_1538, qw_1540, qw_43, qw_139, qw_1541, ⟨by decide +kernel, by decide +kernel, by decide +kernel⟩, by decide⟩
theorem ml_X12_160 : qML RX12 160 yX12_goOn cX12_goOn 2 none 0 := ⟨qw_1488, qw_1490, qw_37, qw_139, qw_1491, ⟨by decide +kernel, by decide +kernel, by decide +kernel⟩, by decide⟩
theorem ml_X12_198 : qML RX12 198 yX12_number cX12_number 4 (some .int) 2 := ⟨qw_1555, qw_1557, qw_45, qw_139, qw_1558, ⟨by decide +kernel, by decide +kernel, by decide +kernel⟩, by decide⟩
theorem ml_X12_202 : qML RX12 202 yX12_begins cX12_begins 3 (some .boolean) 2 := ⟨qw_1563, qw_1565, qw_47, qw_139, qw_1566, ⟨by decide +kernel, by decide +kernel, by decide +kernel⟩, by decide⟩
theorem ml_X12_205 : qML RX12 205 yX12_isTold cX12_isTold 5 (some .boolean) 3 := ⟨qw_1567, qw_1569, qw_48, qw_139, qw_1570, ⟨by decide +kernel, by decide +kernel, by decide +kernel⟩, by decide⟩
theorem ml_X12_209 : qML RX12 209 yX12_key cX12_key 1 (some .int) 0 := ⟨qw_1523, qw_1525, qw_42, qw_139, qw_1526, ⟨by decide +kernel, by decide +kernel, by decide +kernel⟩, by decide⟩
theorem ml_X12_213 : qML RX12 213 yX12_nameTold cX12_nameTold 3 none 1 := ⟨qw_1587, qw_1589, qw_53, qw_139, qw_1590, ⟨by decide +kernel, by decide +kernel, by decide +kernel⟩, by decide⟩
theorem ml_X12_222 : qML RX12 222 yX12_plainLine cX12_plainLine 2 none 1 := ⟨qw_1542, qw_1544, qw_44, qw_139, qw_1545, ⟨by decide +kernel, by decide +kernel, by decide +kernel⟩, by decide⟩
theorem ml_X12_225 : qML RX12 225 yX12_sectionLine cX12_sectionLine 3 none 0 := ⟨qw_1559, qw_1561, qw_46, qw_139, qw_1562, ⟨by decide +kernel, by decide +kernel, by decide +kernel⟩, by decide⟩
theorem ml_X12_228 : qML RX12 228 yX12_craneLine cX12_craneLine 4 none 0 := ⟨qw_1571, qw_1573, qw_49, qw_139, qw_1574, ⟨by decide +kernel, by decide +kernel, by decide +kernel⟩, by decide⟩
theorem ml_X12_231 : qML RX12 231 yX12_tideLine cX12_tideLine 3 none 0 := ⟨qw_1575, qw_1577, qw_50, qw_139, qw_1578, ⟨by decide +kernel, by decide +kernel, by decide +kernel⟩, by decide⟩
theorem ml_X12_234 : qML RX12 234 yX12_gangsLine cX12_gangsLine 4 none 0 := ⟨qw_1579, qw_1581, qw_51, qw_139, qw_1582, ⟨by decide +kernel, by decide +kernel, by decide +kernel⟩, by decide⟩
theorem ml_X12_237 : qML RX12 237 yX12_shipLine cX12_shipLine 4 none 0 := ⟨qw_1583, qw_1585, qw_52, qw_139, qw_1586, ⟨by decide +kernel, by decide +kernel, by decide +kernel⟩, by decide⟩
theorem ml_X12_240 : qML RX12 240 yX12_line cX12_line 2 none 0 := ⟨qw_1519, qw_1521, qw_41, qw_139, qw_1522, ⟨by decide +kernel, by decide +kernel, by decide +kernel⟩, by decide⟩
theorem ml_X12_246 : qML RX12 246 yX12_depthBy cX12_depthBy 6 (some .int) 1 := ⟨qw_1340, qw_1342, qw_34, qw_139, qw_1343, ⟨by decide +kernel, by decide +kernel, by decide +kernel⟩, by decide⟩
theorem ml_X12_249 : qML RX12 249 yX12_levelBy cX12_levelBy 8 (some .int) 1 := ⟨qw_1344, qw_1346, qw_35, qw_139, qw_1347, ⟨by decide +kernel, by decide +kernel, by decide +kernel⟩, by decide⟩
theorem ml_X12_263 : qML RX12 263 yX12_staying cX12_staying 3 (some .int) 0 := ⟨qw_1605, qw_1607, qw_54, qw_139, qw_1608, ⟨by decide +kernel, by decide +kernel, by decide +kernel⟩, by decide⟩
theorem ml_X12_266 : qML RX12 266 yX12_made cX12_made 3 (some .int) 0 := ⟨qw_1613, qw_1615, qw_56, qw_139, qw_1616, ⟨by decide +kernel, by decide +kernel, by decide +kernel⟩, by decide⟩
theorem ml_X12_269 : qML RX12 269 yX12_costOfAll cX12_costOfAll 3 (some .int) 0 := ⟨qw_1617, qw_1619, qw_57, qw_139, qw_1620, ⟨by decide +kernel, by decide +kernel, by decide +kernel⟩, by decide⟩
theorem ml_X12_272 : qML RX12 272 yX12_workOfAll cX12_workOfAll 3 (some .int) 0 := ⟨qw_1633, qw_1635, qw_61, qw_139, qw_1636, ⟨by decide +kernel, by decide +kernel, by decide +kernel⟩, by decide⟩
theorem ml_X12_277 : qML RX12 277 yX12_isMetre cX12_isMetre 2 (some .boolean) 1 := ⟨qw_1642, qw_1644, qw_62, qw_139, qw_1645, ⟨by decide +kernel, by decide +kernel, by decide +kernel⟩, by decide⟩
theorem ml_X12_280 : qML RX12 280 yX12_leastDepth cX12_leastDepth 5 (some .int) 2 := ⟨qw_1650, qw_1652, qw_63, qw_139, qw_1653, ⟨by decide +kernel, by decide +kernel, by decide +kernel⟩, by decide⟩
theorem ml_X12_289 : qML RX12 289 yX12_gangsBy cX12_gangsBy 3 (some .int) 1 := ⟨qw_1671, qw_1673, qw_64, qw_139, qw_1674, ⟨by decide +kernel, by decide +kernel, by decide +kernel⟩, by decide⟩
theorem ml_X12_294 : qML RX12 294 yX12_movesBy cX12_movesBy 3 (some .int) 1 := ⟨qw_1684, qw_1686, qw_65, qw_139, qw_1687, ⟨by decide +kernel, by decide +kernel, by decide +kernel⟩, by decide⟩
theorem ml_X12_297 : qML RX12 297 yX12_isShip cX12_isShip 2 (some .boolean) 1 := ⟨qw_1692, qw_1694, qw_66, qw_139, qw_1695, ⟨by decide +kernel, by decide +kernel, by decide +kernel⟩, by decide⟩
theorem ml_X12_302 : qML RX12 302 yX12_lettersOf cX12_lettersOf 5 (some .int) 1 := ⟨qw_1697, qw_1699, qw_67, qw_139, qw_1700, ⟨by decide +kernel, by decide +kernel, by decide +kernel⟩, by decide⟩
theorem ml_X12_308 : qML RX12 308 yX12_isOpen cX12_isOpen 3 (some .boolean) 2 := ⟨qw_1709, qw_1711, qw_68, qw_139, qw_1712, ⟨by decide +kernel, by decide +kernel, by decide +kernel⟩, by decide⟩
theorem ml_X12_311 : qML RX12 311 yX12_nextOpen cX12_nextOpen 4 (some .int) 2 := ⟨qw_1717, qw_1719, qw_69, qw_139, qw_1720, ⟨by decide +kernel, by decide +kernel, by decide +kernel⟩, by decide⟩
theorem ml_X12_316 : qML RX12 316 yX12_of cX12_of 3 (some .int) 2 := ⟨qw_1629, qw_1631, qw_60, qw_139, qw_1632, ⟨by decide +kernel, by decide +kernel, by decide +kernel⟩, by decide⟩
theorem ml_X12_319 : qML RX12 319 yX12_workBy cX12_workBy 5 (some .int) 2 := ⟨qw_1751, qw_1753, qw_73, qw_139, qw_1754, ⟨by decide +kernel, by decide +kernel, by decide +kernel⟩, by decide⟩
theorem ml_X12_322 : qML RX12 322 yX12_leaveBy cX12_leaveBy 4 (some .int) 3 := ⟨qw_1747, qw_1749, qw_72, qw_139, qw_1750, ⟨by decide +kernel, by decide +kernel, by decide +kernel⟩, by decide⟩
theorem ml_X12_326 : qML RX12 326 yX12_stays cX12_stays 2 (some .boolean) 1 := ⟨qw_1609, qw_1611, qw_55, qw_139, qw_1612, ⟨by decide +kernel, by decide +kernel, by decide +kernel⟩, by decide⟩
theorem ml_X12_329 : qML RX12 329 yX12_lateOf cX12_lateOf 3 (some .int) 1 := ⟨qw_1625, qw_1627, qw_59, qw_139, qw_1628, ⟨by decide +kernel, by decide +kernel, by decide +kernel⟩, by decide⟩
theorem ml_X12_332 : qML RX12 332 yX12_costOf cX12_costOf 2 (some .int) 1 := ⟨qw_1621, qw_1623, qw_58, qw_139, qw_1624, ⟨by decide +kernel, by decide +kernel, by decide +kernel⟩, by decide⟩
theorem ml_X12_337 : qML RX12 337 yX12_isAtWork cX12_isAtWork 3 (some .boolean) 2 := ⟨qw_1795, qw_1797, qw_84, qw_139, qw_1798, ⟨by decide +kernel, by decide +kernel, by decide +kernel⟩, by decide⟩
theorem ml_X12_340 : qML RX12 340 yX12_reaches cX12_reaches 3 (some .boolean) 2 := ⟨qw_1815, qw_1817, qw_89, qw_139, qw_1818, ⟨by decide +kernel, by decide +kernel, by decide +kernel⟩, by decide⟩
theorem ml_X12_343 : qML RX12 343 yX12_nextAtWork cX12_nextAtWork 5 (some .int) 2 := ⟨qw_1807, qw_1809, qw_87, qw_139, qw_1810, ⟨by decide +kernel, by decide +kernel, by decide +kernel⟩, by decide⟩
theorem ml_X12_346 : qML RX12 346 yX12_takesCranes cX12_takesCranes 6 (some .int) 3 := ⟨qw_1811, qw_1813, qw_88, qw_139, qw_1814, ⟨by decide +kernel, by decide +kernel, by decide +kernel⟩, by decide⟩
theorem ml_X12_349 : qML RX12 349 yX12_lastMetre cX12_lastMetre 2 (some .int) 1 := ⟨qw_1763, qw_1765, qw_76, qw_139, qw_1766, ⟨by decide +kernel, by decide +kernel, by decide +kernel⟩, by decide⟩
theorem ml_X12_352 : qML RX12 352 yX12_shareSlots cX12_shareSlots 3 (some .boolean) 2 := ⟨qw_1779, qw_1781, qw_80, qw_139, qw_1782, ⟨by decide +kernel, by decide +kernel, by decide +kernel⟩, by decide⟩
theorem ml_X12_355 : qML RX12 355 yX12_areClose cX12_areClose 3 (some .boolean) 2 := ⟨qw_1783, qw_1785, qw_81, qw_139, qw_1786, ⟨by decide +kernel, by decide +kernel, by decide +kernel⟩, by decide⟩
theorem ml_X12_358 : qML RX12 358 yX12_cranesIn cX12_cranesIn 4 (some .int) 1 := ⟨qw_1791, qw_1793, qw_83, qw_139, qw_1794, ⟨by decide +kernel, by decide +kernel, by decide +kernel⟩, by decide⟩
theorem ml_X12_361 : qML RX12 361 yX12_deals cX12_deals 5 (some .boolean) 2 := ⟨qw_1803, qw_1805, qw_86, qw_139, qw_1806, ⟨by decide +kernel, by decide +kernel, by decide +kernel⟩, by decide⟩
theorem ml_X12_364 : qML RX12 364 yX12_lowestIn cX12_lowestIn 4 (some .int) 1 := ⟨qw_1767, qw_1769, qw_77, qw_139, qw_1770, ⟨by decide +kernel, by decide +kernel, by decide +kernel⟩, by decide⟩
theorem ml_X12_367 : qML RX12 367 yX12_needOf cX12_needOf 3 (some .int) 1 := ⟨qw_1771, qw_1773, qw_78, qw_139, qw_1774, ⟨by decide +kernel, by decide +kernel, by decide +kernel⟩, by decide⟩
theorem ml_X12_370 : qML RX12 370 yX12_waysOf cX12_waysOf 4 (some .int) 1 := ⟨qw_1775, qw_1777, qw_79, qw_139, qw_1778, ⟨by decide +kernel, by decide +kernel, by decide +kernel⟩, by decide⟩
theorem ml_X12_373 : qML RX12 373 yX12_hasGangs cX12_hasGangs 3 (some .boolean) 1 := ⟨qw_1787, qw_1789, qw_82, qw_139, qw_1790, ⟨by decide +kernel, by decide +kernel, by decide +kernel⟩, by decide⟩
theorem ml_X12_376 : qML RX12 376 yX12_hasCranes cX12_hasCranes 3 (some .boolean) 1 := ⟨qw_1799, qw_1801, qw_85, qw_139, qw_1802, ⟨by decide +kernel, by decide +kernel, by decide +kernel⟩, by decide⟩
theorem ml_X12_379 : qML RX12 379 yX12_earlyLaw cX12_earlyLaw 7 (some .int) 4 := ⟨qw_1743, qw_1745, qw_71, qw_139, qw_1746, ⟨by decide +kernel, by decide +kernel, by decide +kernel⟩, by decide⟩
theorem ml_X12_383 : qML RX12 383 yX12_lay cX12_lay 5 none 4 := ⟨qw_1755, qw_1757, qw_74, qw_139, qw_1758, ⟨by decide +kernel, by decide +kernel, by decide +kernel⟩, by decide⟩
theorem ml_X12_387 : qML RX12 387 yX12_lateLaw cX12_lateLaw 2 (some .int) 1 := ⟨qw_1759, qw_1761, qw_75, qw_139, qw_1762, ⟨by decide +kernel, by decide +kernel, by decide +kernel⟩, by decide⟩
theorem ml_X12_390 : qML RX12 390 yX12_lawOf cX12_lawOf 11 (some .int) 4 := ⟨qw_1739, qw_1741, qw_70, qw_139, qw_1742, ⟨by decide +kernel, by decide +kernel, by decide +kernel⟩, by decide⟩
theorem ml_X12_396 : qML RX12 396 yX12_layTens cX12_layTens 3 none 1 := ⟨qw_1831, qw_1833, qw_91, qw_139, qw_1834, ⟨by decide +kernel, by decide +kernel, by decide +kernel⟩, by decide⟩
theorem ml_X12_399 : qML RX12 399 yX12_fitsAt cX12_fitsAt 4 (some .boolean) 1 := ⟨qw_1835, qw_1837, qw_92, qw_139, qw_1838, ⟨by decide +kernel, by decide +kernel, by decide +kernel⟩, by decide⟩
theorem ml_X12_405 : qML RX12 405 yX12_seeks cX12_seeks 8 (some .boolean) 2 := ⟨qw_1827, qw_1829, qw_90, qw_139, qw_1830, ⟨by decide +kernel, by decide +kernel, by decide +kernel⟩, by decide⟩
theorem ml_X12_408 : qML RX12 408 yX12_seeksItself cX12_seeksItself 3 (some .int) 1 := ⟨qw_1863, qw_1865, qw_97, qw_139, qw_1866, ⟨by decide +kernel, by decide +kernel, by decide +kernel⟩, by decide⟩
theorem ml_X12_411 : qML RX12 411 yX12_copies cX12_copies 4 none 2 := ⟨qw_1851, qw_1853, qw_95, qw_139, qw_1854, ⟨by decide +kernel, by decide +kernel, by decide +kernel⟩, by decide⟩
theorem ml_X12_414 : qML RX12 414 yX12_puts cX12_puts 4 none 1 := ⟨qw_1843, qw_1845, qw_93, qw_139, qw_1846, ⟨by decide +kernel, by decide +kernel, by decide +kernel⟩, by decide⟩
theorem ml_X12_417 : qML RX12 417 yX12_keeps cX12_keeps 2 none 0 := ⟨qw_1847, qw_1849, qw_94, qw_139, qw_1850, ⟨by decide +kernel, by decide +kernel, by decide +kernel⟩, by decide⟩
theorem ml_X12_420 : qML RX12 420 yX12_laysItself cX12_laysItself 3 (some .boolean) 1 := ⟨qw_1859, qw_1861, qw_96, qw_139, qw_1862, ⟨by decide +kernel, by decide +kernel, by decide +kernel⟩, by decide⟩
theorem ml_X12_423 : qML RX12 423 yX12_lawOfSwap cX12_lawOfSwap 10 (some .int) 2 := ⟨qw_1879, qw_1881, qw_98, qw_139, qw_1882, ⟨by decide +kernel, by decide +kernel, by decide +kernel⟩, by decide⟩
theorem ml_X12_426 : qML RX12 426 yX12_takes cX12_takes 4 none 1 := ⟨qw_1883, qw_1885, qw_99, qw_139, qw_1886, ⟨by decide +kernel, by decide +kernel, by decide +kernel⟩, by decide⟩
theorem ml_X12_429 : qML RX12 429 yX12_nextOld cX12_nextOld 6 (some .int) 2 := ⟨qw_1891, qw_1893, qw_100, qw_139, qw_1894, ⟨by decide +kernel, by decide +kernel, by decide +kernel⟩, by decide⟩
theorem ml_X12_432 : qML RX12 432 yX12_comesSooner cX12_comesSooner 3 (some .boolean) 1 := ⟨qw_1895, qw_1897, qw_101, qw_139, qw_1898, ⟨by decide +kernel, by decide +kernel, by decide +kernel⟩, by decide⟩
theorem ml_X12_438 : qML RX12 438 yX12_compares cX12_compares 6 (some .int) 3 := ⟨qw_1923, qw_1925, qw_103, qw_139, qw_1926, ⟨by decide +kernel, by decide +kernel, by decide +kernel⟩, by decide⟩
theorem ml_X12_441 : qML RX12 441 yX12_laysOrder cX12_laysOrder 4 none 1 := ⟨qw_1919, qw_1921, qw_102, qw_139, qw_1922, ⟨by decide +kernel, by decide +kernel, by decide +kernel⟩, by decide⟩
theorem ml_X12_447 : qML RX12 447 yX12_swaps cX12_swaps 4 none 2 := ⟨qw_1955, qw_1957, qw_108, qw_139, qw_1958, ⟨by decide +kernel, by decide +kernel, by decide +kernel⟩, by decide⟩
theorem ml_X12_456 : qML RX12 456 yX12_findsFour cX12_findsFour 2 none 0 := ⟨qw_1943, qw_1945, qw_105, qw_139, qw_1946, ⟨by decide +kernel, by decide +kernel, by decide +kernel⟩, by decide⟩
theorem ml_X12_459 : qML RX12 459 yX12_tries cX12_tries 5 none 0 := ⟨qw_1947, qw_1949, qw_106, qw_139, qw_1950, ⟨by decide +kernel, by decide +kernel, by decide +kernel⟩, by decide⟩
theorem ml_X12_462 : qML RX12 462 yX12_goesOn cX12_goesOn 5 (some .boolean) 0 := ⟨qw_1951, qw_1953, qw_107, qw_139, qw_1954, ⟨by decide +kernel, by decide +kernel, by decide +kernel⟩, by decide⟩
theorem ml_X12_468 : qML RX12 468 yX12_laysFour cX12_laysFour 2 none 0 := ⟨qw_1939, qw_1941, qw_104, qw_139, qw_1942, ⟨by decide +kernel, by decide +kernel, by decide +kernel⟩, by decide⟩
theorem ml_X12_471 : qML RX12 471 yX12_isLying cX12_isLying 3 (some .boolean) 2 := ⟨qw_1971, qw_1973, qw_110, qw_139, qw_1974, ⟨by decide +kernel, by decide +kernel, by decide +kernel⟩, by decide⟩
theorem ml_X12_474 : qML RX12 474 yX12_liesAt cX12_liesAt 4 (some .int) 2 := ⟨qw_1967, qw_1969, qw_109, qw_139, qw_1970, ⟨by decide +kernel, by decide +kernel, by decide +kernel⟩, by decide⟩
theorem ml_X12_477 : qML RX12 477 yX12_nextLying cX12_nextLying 5 (some .int) 2 := ⟨qw_1979, qw_1981, qw_111, qw_139, qw_1982, ⟨by decide +kernel, by decide +kernel, by decide +kernel⟩, by decide⟩
theorem ml_X12_480 : qML RX12 480 yX12_isCrane cX12_isCrane 2 (some .boolean) 1 := ⟨qw_1991, qw_1993, qw_112, qw_139, qw_1994, ⟨by decide +kernel, by decide +kernel, by decide +kernel⟩, by decide⟩
theorem ml_X12_483 : qML RX12 483 yX12_workedOn cX12_workedOn 3 (some .int) 2 := ⟨qw_1995, qw_1997, qw_113, qw_139, qw_1998, ⟨by decide +kernel, by decide +kernel, by decide +kernel⟩, by decide⟩
theorem ml_X12_486 : qML RX12 486 yX12_leftAhead cX12_leftAhead 5 (some .int) 2 := ⟨qw_2011, qw_2013, qw_114, qw_139, qw_2014, ⟨by decide +kernel, by decide +kernel, by decide +kernel⟩, by decide⟩
theorem ml_X12_489 : qML RX12 489 yX12_boxesIn cX12_boxesIn 4 (some .int) 1 := ⟨qw_2019, qw_2021, qw_115, qw_139, qw_2022, ⟨by decide +kernel, by decide +kernel, by decide +kernel⟩, by decide⟩
theorem ml_X12_492 : qML RX12 492 yX12_mostCranes cX12_mostCranes 4 (some .int) 1 := ⟨qw_2023, qw_2025, qw_116, qw_139, qw_2026, ⟨by decide +kernel, by decide +kernel, by decide +kernel⟩, by decide⟩
theorem ml_X12_495 : qML RX12 495 yX12_craneSlots cX12_craneSlots 4 (some .int) 1 := ⟨qw_2027, qw_2029, qw_117, qw_139, qw_2030, ⟨by decide +kernel, by decide +kernel, by decide +kernel⟩, by decide⟩
theorem ml_X12_500 : qML RX12 500 yX12_rankNumber cX12_rankNumber 3 (some .int) 2 := ⟨qw_2044, qw_2046, qw_118, qw_139, qw_2047, ⟨by decide +kernel, by decide +kernel, by decide +kernel⟩, by decide⟩
theorem ml_X12_503 : qML RX12 503 yX12_nextLeaver cX12_nextLeaver 6 (some .int) 2 := ⟨qw_2052, qw_2054, qw_119, qw_139, qw_2055, ⟨by decide +kernel, by decide +kernel, by decide +kernel⟩, by decide⟩
theorem ml_X12_509 : qML RX12 509 yX12_writes cX12_writes 2 none 1 := ⟨qw_2069, qw_2071, qw_121, qw_139, qw_2072, ⟨by decide +kernel, by decide +kernel, by decide +kernel⟩, by decide⟩
theorem ml_X12_512 : qML RX12 512 yX12_letter cX12_letter 7 (some .int) 2 := ⟨qw_2068, qw_1689, qw_1690, qw_139, qw_1691, ⟨by decide +kernel, by decide +kernel, by decide +kernel⟩, by decide⟩
theorem ml_X12_515 : qML RX12 515 yX12_writesName cX12_writesName 3 none 1 := ⟨qw_2064, qw_2066, qw_120, qw_139, qw_2067, ⟨by decide +kernel, by decide +kernel, by decide +kernel⟩, by decide⟩
theorem ml_X12_518 : qML RX12 518 yX12_writesNumber cX12_writesNumber 3 none 1 := ⟨qw_2073, qw_2075, qw_122, qw_139, qw_2076, ⟨by decide +kernel, by decide +kernel, by decide +kernel⟩, by decide⟩
theorem ml_X12_524 : qML RX12 524 yX12_differsIn cX12_differsIn 4 (some .boolean) 2 := ⟨qw_2092, qw_2094, qw_123, qw_139, qw_2095, ⟨by decide +kernel, by decide +kernel, by decide +kernel⟩, by decide⟩
theorem ml_J0_335 : qML RJ0 335 yJ0_coder_7d493 cJ0_coder_7d493 1 (some .byte) 0 := ⟨qw_640, qw_641, qw_642, qw_141, qw_643, ⟨by decide +kernel, by decide +kernel, by decide +kernel⟩, by decide⟩
theorem ml_J0_492 : qML RJ0 492 yJ0_isLatin1_aae02 cJ0_isLatin1_aae02 1 (some .boolean) 0 := ⟨qw_650, qw_651, qw_652, qw_141, qw_653, ⟨by decide +kernel, by decide +kernel, by decide +kernel⟩, by decide⟩
theorem ml_X11_194 : qMS RX11 194 yX11_isSlot cX11_isSlot 1 (some .boolean) 1 := ⟨qw_844, qw_845, qw_125, qw_846, ⟨by decide +kernel, by decide +kernel, by decide +kernel⟩, by decide⟩
theorem ml_X11_200 : qMS RX11 200 yX11_isShift cX11_isShift 2 (some .boolean) 2 := ⟨qw_851, qw_852, qw_125, qw_853, ⟨by decide +kernel, by decide +kernel, by decide +kernel⟩, by decide⟩
theorem ml_X11_245 : qMS RX11 245 yX11_isCraneNumber cX11_isCraneNumber 1 (some .boolean) 1 := ⟨qw_889, qw_890, qw_125, qw_891, ⟨by decide +kernel, by decide +kernel, by decide +kernel⟩, by decide⟩
theorem ml_X11_251 : qMS RX11 251 yX11_isWater cX11_isWater 1 (some .boolean) 1 := ⟨qw_901, qw_902, qw_125, qw_903, ⟨by decide +kernel, by decide +kernel, by decide +kernel⟩, by decide⟩
theorem ml_X11_292 : qMS RX11 292 yX11_refusal cX11_refusal 1 (some .int) 1 := ⟨qw_1064, qw_1065, qw_125, qw_1066, ⟨by decide +kernel, by decide +kernel, by decide +kernel⟩, by decide⟩
theorem ml_X11_316 : qMS RX11 316 yX11_sum cX11_sum 4 (some .int) 2 := ⟨qw_1098, qw_1099, qw_125, qw_1100, ⟨by decide +kernel, by decide +kernel, by decide +kernel⟩, by decide⟩
theorem ml_X11_323 : qMS RX11 323 yJ9_min_f86c9 cJ9_min_f86c9 4 (some .long) 2 := ⟨qw_1103, qw_1104, qw_140, qw_1105, ⟨by decide +kernel, by decide +kernel, by decide +kernel⟩, by decide⟩
theorem ml_X11_329 : qMS RX11 329 yJ9_max_f86c9 cJ9_max_f86c9 4 (some .long) 2 := ⟨qw_1106, qw_1107, qw_140, qw_1108, ⟨by decide +kernel, by decide +kernel, by decide +kernel⟩, by decide⟩
theorem ml_X11_344 : qMS RX11 344 yX11_isRule cX11_isRule 1 (some .boolean) 1 := ⟨qw_1154, qw_1155, qw_125, qw_1156, ⟨by decide +kernel, by decide +kernel, by decide +kernel⟩, by decide⟩
theorem ml_X11_397 : qMS RX11 397 yJ9_max_7cf53 cJ9_max_7cf53 2 (some .int) 2 := ⟨qw_1260, qw_756, qw_140, qw_757, ⟨by decide +kernel, by decide +kernel, by decide +kernel⟩, by decide⟩
theorem ml_X0_23 : qMS RX0 23 yJ7_fill_53178 cJ7_fill_53178 4 none 2 := ⟨qw_1004, qw_237, qw_128, qw_238, ⟨by decide +kernel, by decide +kernel, by decide +kernel⟩, by decide⟩
theorem ml_X2_35 : qMS RX2 35 yJ6_bitCount_0f7a4 cJ6_bitCount_0f7a4 1 (some .int) 1 := ⟨qw_790, qw_791, qw_145, qw_792, ⟨by decide +kernel, by decide +kernel, by decide +kernel⟩, by decide⟩
theorem ml_X3_109 : qMS RX3 109 yJ9_min_7cf53 cJ9_min_7cf53 2 (some .int) 2 := ⟨qw_986, qw_599, qw_140, qw_600, ⟨by decide +kernel, by decide +kernel, by decide +kernel⟩, by decide⟩
theorem ml_X5_27 : qMS RX5 27 yJ9_min_7cf53 cJ9_min_7cf53 2 (some .int) 2 := ⟨qw_598, qw_599, qw_140, qw_600, ⟨by decide +kernel, by decide +kernel, by decide +kernel⟩, by decide⟩
theorem ml_X5_108 : qMS RX5 108 yX5_wordOf cX5_wordOf 1 (some (.object "java/lang/String")) 1 := ⟨qw_618, qw_619, qw_129, qw_620, ⟨by decide +kernel, by decide +kernel, by decide +kernel⟩, by decide⟩
theorem ml_X7_74 : qMS RX7 74 yJ9_min_7cf53 cJ9_min_7cf53 2 (some .int) 2 := ⟨qw_941, qw_599, qw_140, qw_600, ⟨by decide +kernel, by decide +kernel, by decide +kernel⟩, by decide⟩
theorem ml_X7_96 : qMS RX7 96 yJ7_fill_53178 cJ7_fill_53178 4 none 2 := ⟨qw_765, qw_237, qw_128, qw_238, ⟨by decide +kernel, by decide +kernel, by decide +kernel⟩, by decide⟩
theorem ml_X7_108 : qMS RX7 108 yJ9_max_7cf53 cJ9_max_7cf53 2 (some .int) 2 := ⟨qw_813, qw_756, qw_140, qw_757, ⟨by decide +kernel, by decide +kernel, by decide +kernel⟩, by decide⟩
theorem ml_X8_64 : qMS RX8 64 yJ7_fill_53178 cJ7_fill_53178 4 none 2 := ⟨qw_236, qw_237, qw_128, qw_238, ⟨by decide +kernel, by decide +kernel, by decide +kernel⟩, by decide⟩
theorem ml_X8_73 : qMS RX8 73 yX8_holds cX8_holds 4 (some .boolean) 3 := ⟨qw_732, qw_733, qw_126, qw_734, ⟨by decide +kernel, by decide +kernel, by decide +kernel⟩, by decide⟩
theorem ml_X8_85 : qMS RX8 85 yJ9_min_7cf53 cJ9_min_7cf53 2 (some .int) 2 := ⟨qw_839, qw_599, qw_140, qw_600, ⟨by decide +kernel, by decide +kernel, by decide +kernel⟩, by decide⟩
theorem ml_X8_90 : qMS RX8 90 yJ9_max_7cf53 cJ9_max_7cf53 2 (some .int) 2 := ⟨qw_896, qw_756, qw_140, qw_757, ⟨by decide +kernel, by decide +kernel, by decide +kernel⟩, by decide⟩
theorem ml_X9_39 : qMS RX9 39 yJ9_max_7cf53 cJ9_max_7cf53 2 (some .int) 2 := ⟨qw_755, qw_756, qw_140, qw_757, ⟨by decide +kernel, by decide +kernel, by decide +kernel⟩, by decide⟩
theorem ml_X9_45 : qMS RX9 45 yJ9_floorDiv_7cf53 cJ9_floorDiv_7cf53 3 (some .int) 2 := ⟨qw_758, qw_759, qw_140, qw_760, ⟨by decide +kernel, by decide +kernel, by decide +kernel⟩, by decide⟩
theorem ml_X9_55 : qMS RX9 55 yJ9_min_7cf53 cJ9_min_7cf53 2 (some .int) 2 := ⟨qw_968, qw_599, qw_140, qw_600, ⟨by decide +kernel, by decide +kernel, by decide +kernel⟩, by decide⟩
theorem ml_X12_99 : qMS RX12 99 yX12_in cX12_in 6 (some .boolean) 3 := ⟨qw_1501, qw_1502, qw_139, qw_1503, ⟨by decide +kernel, by decide +kernel, by decide +kernel⟩, by decide⟩
theorem ml_X12_123 : qMS RX12 123 yX12_isLetter cX12_isLetter 1 (some .boolean) 1 := ⟨qw_1496, qw_1497, qw_139, qw_1498, ⟨by decide +kernel, by decide +kernel, by decide +kernel⟩, by decide⟩
theorem ml_X12_130 : qMS RX12 130 yX12_isDigit cX12_isDigit 1 (some .boolean) 1 := ⟨qw_1508, qw_1509, qw_139, qw_1510, ⟨by decide +kernel, by decide +kernel, by decide +kernel⟩, by decide⟩
theorem ml_X12_188 : qMS RX12 188 yX12_has cX12_has 2 (some .boolean) 2 := ⟨qw_1546, qw_1547, qw_139, qw_1548, ⟨by decide +kernel, by decide +kernel, by decide +kernel⟩, by decide⟩
theorem ml_X12_192 : qMS RX12 192 yX12_lowOf cX12_lowOf 1 (some .int) 1 := ⟨qw_1549, qw_1550, qw_139, qw_1551, ⟨by decide +kernel, by decide +kernel, by decide +kernel⟩, by decide⟩
theorem ml_X12_195 : qMS RX12 195 yX12_highOf cX12_highOf 1 (some .int) 1 := ⟨qw_1552, qw_1553, qw_139, qw_1554, ⟨by decide +kernel, by decide +kernel, by decide +kernel⟩, by decide⟩
theorem ml_X12_216 : qMS RX12 216 yX12_shipLow cX12_shipLow 1 (some .int) 1 := ⟨qw_1591, qw_1592, qw_139, qw_1593, ⟨by decide +kernel, by decide +kernel, by decide +kernel⟩, by decide⟩
theorem ml_X12_219 : qMS RX12 219 yX12_shipHigh cX12_shipHigh 1 (some .int) 1 := ⟨qw_1594, qw_1595, qw_139, qw_1596, ⟨by decide +kernel, by decide +kernel, by decide +kernel⟩, by decide⟩
theorem ml_X12_283 : qMS RX12 283 yX12_isSlot cX12_isSlot 1 (some .boolean) 1 := ⟨qw_1658, qw_1659, qw_139, qw_1660, ⟨by decide +kernel, by decide +kernel, by decide +kernel⟩, by decide⟩
theorem ml_X12_286 : qMS RX12 286 yX12_isShift cX12_isShift 2 (some .boolean) 2 := ⟨qw_1666, qw_1667, qw_139, qw_1668, ⟨by decide +kernel, by decide +kernel, by decide +kernel⟩, by decide⟩
theorem ml_X12_305 : qMS RX12 305 yX12_isWater cX12_isWater 1 (some .boolean) 1 := ⟨qw_1705, qw_1706, qw_139, qw_1707, ⟨by decide +kernel, by decide +kernel, by decide +kernel⟩, by decide⟩
theorem ml_X12_435 : qMS RX12 435 yX12_first cX12_first 3 (some .int) 3 := ⟨qw_1927, qw_1928, qw_139, qw_1929, ⟨by decide +kernel, by decide +kernel, by decide +kernel⟩, by decide⟩
theorem ml_X12_521 : qMS RX12 521 yX12_isMark cX12_isMark 1 (some .boolean) 1 := ⟨qw_2089, qw_2090, qw_139, qw_2091, ⟨by decide +kernel, by decide +kernel, by decide +kernel⟩, by decide⟩
theorem ml_J0_495 : qMS RJ0 495 yJ1_charAt_3b067 cJ1_charAt_3b067 2 (some .char) 2 := ⟨qw_654, qw_655, qw_142, qw_656, ⟨by decide +kernel, by decide +kernel, by decide +kernel⟩, by decide⟩
theorem ml_J0_1059 : qMS RJ0 1059 yJ3_checkIndex_8e157 cJ3_checkIndex_8e157 3 (some .int) 3 := ⟨qw_662, qw_663, qw_143, qw_664, ⟨by decide +kernel, by decide +kernel, by decide +kernel⟩, by decide⟩
theorem ml_J1_9 : qMS RJ1 9 yJ0_checkIndex_df160 cJ0_checkIndex_df160 2 none 2 := ⟨qw_657, qw_658, qw_141, qw_659, ⟨by decide +kernel, by decide +kernel, by decide +kernel⟩, by decide⟩
theorem cw_X1_74 : qCW RX1 74 := ⟨qw_1189, qw_235, qw_234, qw_127⟩
theorem cw_X2_29 : qCW RX2 29 := ⟨qw_1080, qw_235, qw_234, qw_127⟩
theorem cw_X8_45 : qCW RX8 45 := ⟨qw_233, qw_235, qw_234, qw_127⟩
