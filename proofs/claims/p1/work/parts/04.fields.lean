theorem df_SB : ∀ j, j < 13 → defaultValue (ty_SB j) = vp_V [.null, .int 0, .int 0, .null, .null, .null, .null, .null, .null, .null, .null, .int 0, .int 0] j
  | 0, _ => rfl
  | 1, _ => rfl
  | 2, _ => rfl
  | 3, _ => rfl
  | 4, _ => rfl
  | 5, _ => rfl
  | 6, _ => rfl
  | 7, _ => rfl
  | 8, _ => rfl
  | 9, _ => rfl
  | 10, _ => rfl
  | 11, _ => rfl
  | 12, _ => rfl
  | n + 13, h => absurd h (by omega)
theorem df_Cl : ∀ j, j < 9 → defaultValue (ty_Cl j) = vp_V [.int 0, .null, .null, .null, .null, .null, .null, .null, .int 0] j
  | 0, _ => rfl
  | 1, _ => rfl
  | 2, _ => rfl
  | 3, _ => rfl
  | 4, _ => rfl
  | 5, _ => rfl
  | 6, _ => rfl
  | 7, _ => rfl
  | 8, _ => rfl
  | n + 9, h => absurd h (by omega)
theorem df_Co : ∀ j, j < 4 → defaultValue (ty_Co j) = vp_V [.null, .null, .null, .null] j
  | 0, _ => rfl
  | 1, _ => rfl
  | 2, _ => rfl
  | 3, _ => rfl
  | n + 4, h => absurd h (by omega)
theorem df_Fa : ∀ j, j < 14 → defaultValue (ty_Fa j) = vp_V [.int 0, .int 0, .int 0, .null, .null, .null, .null, .null, .null, .null, .null, .null, .null, .int 0] j
  | 0, _ => rfl
  | 1, _ => rfl
  | 2, _ => rfl
  | 3, _ => rfl
  | 4, _ => rfl
  | 5, _ => rfl
  | 6, _ => rfl
  | 7, _ => rfl
  | 8, _ => rfl
  | 9, _ => rfl
  | 10, _ => rfl
  | 11, _ => rfl
  | 12, _ => rfl
  | 13, _ => rfl
  | n + 14, h => absurd h (by omega)
theorem df_Ix : ∀ j, j < 9 → defaultValue (ty_Ix j) = vp_V [.int 0, .null, .null, .null, .null, .null, .null, .null, .int 0] j
  | 0, _ => rfl
  | 1, _ => rfl
  | 2, _ => rfl
  | 3, _ => rfl
  | 4, _ => rfl
  | 5, _ => rfl
  | 6, _ => rfl
  | 7, _ => rfl
  | 8, _ => rfl
  | n + 9, h => absurd h (by omega)
theorem df_Jo : ∀ j, j < 11 → defaultValue (ty_Jo j) = vp_V [.null, .null, .null, .null, .int 0, .null, .int 0, .null, .int 0, .int 0, .int 0] j
  | 0, _ => rfl
  | 1, _ => rfl
  | 2, _ => rfl
  | 3, _ => rfl
  | 4, _ => rfl
  | 5, _ => rfl
  | 6, _ => rfl
  | 7, _ => rfl
  | 8, _ => rfl
  | 9, _ => rfl
  | 10, _ => rfl
  | n + 11, h => absurd h (by omega)
theorem df_Na : ∀ j, j < 5 → defaultValue (ty_Na j) = vp_V [.int 0, .null, .null, .null, .int 0] j
  | 0, _ => rfl
  | 1, _ => rfl
  | 2, _ => rfl
  | 3, _ => rfl
  | 4, _ => rfl
  | n + 5, h => absurd h (by omega)
theorem df_Pr : ∀ j, j < 7 → defaultValue (ty_Pr j) = vp_V [.null, .null, .null, .null, .null, .int 0, .null] j
  | 0, _ => rfl
  | 1, _ => rfl
  | 2, _ => rfl
  | 3, _ => rfl
  | 4, _ => rfl
  | 5, _ => rfl
  | 6, _ => rfl
  | n + 7, h => absurd h (by omega)
theorem df_Re : ∀ j, j < 19 → defaultValue (ty_Re j) = vp_V [.int 0, .int 0, .null, .int 0, .null, .int 0, .int 0, .null, .null, .int 0, .int 0, .int 0, .int 0, .int 0, .int 0, .null, .null, .null, .null] j
  | 0, _ => rfl
  | 1, _ => rfl
  | 2, _ => rfl
  | 3, _ => rfl
  | 4, _ => rfl
  | 5, _ => rfl
  | 6, _ => rfl
  | 7, _ => rfl
  | 8, _ => rfl
  | 9, _ => rfl
  | 10, _ => rfl
  | 11, _ => rfl
  | 12, _ => rfl
  | 13, _ => rfl
  | 14, _ => rfl
  | 15, _ => rfl
  | 16, _ => rfl
  | 17, _ => rfl
  | 18, _ => rfl
  | n + 19, h => absurd h (by omega)
theorem df_Ro : ∀ j, j < 6 → defaultValue (ty_Ro j) = vp_V [.int 0, .int 0, .int 0, .null, .null, .null] j
  | 0, _ => rfl
  | 1, _ => rfl
  | 2, _ => rfl
  | 3, _ => rfl
  | 4, _ => rfl
  | 5, _ => rfl
  | n + 6, h => absurd h (by omega)
theorem df_St : ∀ j, j < 17 → defaultValue (ty_St j) = vp_V [.int 0, .int 0, .int 0, .int 0, .int 0, .int 0, .int 0, .int 0, .int 0, .int 0, .int 0, .int 0, .long 0, .int 0, .int 0, .null, .null] j
  | 0, _ => rfl
  | 1, _ => rfl
  | 2, _ => rfl
  | 3, _ => rfl
  | 4, _ => rfl
  | 5, _ => rfl
  | 6, _ => rfl
  | 7, _ => rfl
  | 8, _ => rfl
  | 9, _ => rfl
  | 10, _ => rfl
  | 11, _ => rfl
  | 12, _ => rfl
  | 13, _ => rfl
  | 14, _ => rfl
  | 15, _ => rfl
  | 16, _ => rfl
  | n + 17, h => absurd h (by omega)
theorem df_To : ∀ j, j < 6 → defaultValue (ty_To j) = vp_V [.null, .int 0, .int 0, .int 0, .int 0, .int 0] j
  | 0, _ => rfl
  | 1, _ => rfl
  | 2, _ => rfl
  | 3, _ => rfl
  | 4, _ => rfl
  | 5, _ => rfl
  | n + 6, h => absurd h (by omega)
theorem df_Mo : ∀ j, j < 64 → defaultValue (ty_Mo j) = vp_V [.int 0, .null, .int 0, .int 0, .int 0, .null, .int 0, .int 0, .null, .null, .null, .null, .null, .null, .null, .null, .null, .null, .null, .null, .null, .null, .null, .null, .null, .null, .null, .null, .int 0, .int 0, .int 0, .int 0, .int 0, .long 0, .int 0, .int 0, .int 0, .int 0, .int 0, .int 0, .null, .null, .int 0, .int 0, .null, .null, .null, .int 0, .int 0, .null, .null, .int 0, .null, .null, .null, .null, .int 0, .null, .int 0, .int 0, .null, .int 0, .int 0, .null] j
  | 0, _ => rfl
  | 1, _ => rfl
  | 2, _ => rfl
  | 3, _ => rfl
  | 4, _ => rfl
  | 5, _ => rfl
  | 6, _ => rfl
  | 7, _ => rfl
  | 8, _ => rfl
  | 9, _ => rfl
  | 10, _ => rfl
  | 11, _ => rfl
  | 12, _ => rfl
  | 13, _ => rfl
  | 14, _ => rfl
  | 15, _ => rfl
  | 16, _ => rfl
  | 17, _ => rfl
  | 18, _ => rfl
  | 19, _ => rfl
  | 20, _ => rfl
  | 21, _ => rfl
  | 22, _ => rfl
  | 23, _ => rfl
  | 24, _ => rfl
  | 25, _ => rfl
  | 26, _ => rfl
  | 27, _ => rfl
  | 28, _ => rfl
  | 29, _ => rfl
  | 30, _ => rfl
  | 31, _ => rfl
  | 32, _ => rfl
  | 33, _ => rfl
  | 34, _ => rfl
  | 35, _ => rfl
  | 36, _ => rfl
  | 37, _ => rfl
  | 38, _ => rfl
  | 39, _ => rfl
  | 40, _ => rfl
  | 41, _ => rfl
  | 42, _ => rfl
  | 43, _ => rfl
  | 44, _ => rfl
  | 45, _ => rfl
  | 46, _ => rfl
  | 47, _ => rfl
  | 48, _ => rfl
  | 49, _ => rfl
  | 50, _ => rfl
  | 51, _ => rfl
  | 52, _ => rfl
  | 53, _ => rfl
  | 54, _ => rfl
  | 55, _ => rfl
  | 56, _ => rfl
  | 57, _ => rfl
  | 58, _ => rfl
  | 59, _ => rfl
  | 60, _ => rfl
  | 61, _ => rfl
  | 62, _ => rfl
  | 63, _ => rfl
  | n + 64, h => absurd h (by omega)
theorem la_SB : ∀ k, k < 13 → u_lay "StrataBase" tb_SB k ∈ tblG
  | 0, _ => wd_530
  | 1, _ => wd_532
  | 2, _ => wd_534
  | 3, _ => wd_536
  | 4, _ => wd_538
  | 5, _ => wd_540
  | 6, _ => wd_542
  | 7, _ => wd_544
  | 8, _ => wd_546
  | 9, _ => wd_548
  | 10, _ => wd_550
  | 11, _ => wd_552
  | 12, _ => wd_554
  | n + 13, h => absurd h (by omega)
theorem in_SB : ∀ w ∈ u_ws "StrataBase" tb_SB 13, w ∈ tblG := fun w hw => by
  obtain ⟨k, hk, rfl⟩ := List.mem_map.mp hw
  exact la_SB k (List.mem_range.mp hk)
theorem la_Cl : ∀ k, k < 9 → u_lay "StrataBase$Clauses" tb_Cl k ∈ tblG
  | 0, _ => wd_77
  | 1, _ => wd_79
  | 2, _ => wd_81
  | 3, _ => wd_83
  | 4, _ => wd_85
  | 5, _ => wd_87
  | 6, _ => wd_89
  | 7, _ => wd_91
  | 8, _ => wd_93
  | n + 9, h => absurd h (by omega)
theorem in_Cl : ∀ w ∈ u_ws "StrataBase$Clauses" tb_Cl 9, w ∈ tblG := fun w hw => by
  obtain ⟨k, hk, rfl⟩ := List.mem_map.mp hw
  exact la_Cl k (List.mem_range.mp hk)
theorem la_Co : ∀ k, k < 4 → u_lay "StrataBase$Constants" tb_Co k ∈ tblG
  | 0, _ => wd_136
  | 1, _ => wd_138
  | 2, _ => wd_140
  | 3, _ => wd_142
  | n + 4, h => absurd h (by omega)
theorem in_Co : ∀ w ∈ u_ws "StrataBase$Constants" tb_Co 4, w ∈ tblG := fun w hw => by
  obtain ⟨k, hk, rfl⟩ := List.mem_map.mp hw
  exact la_Co k (List.mem_range.mp hk)
theorem la_Fa : ∀ k, k < 14 → u_lay "StrataBase$Facts" tb_Fa k ∈ tblG
  | 0, _ => wd_311
  | 1, _ => wd_313
  | 2, _ => wd_315
  | 3, _ => wd_317
  | 4, _ => wd_319
  | 5, _ => wd_321
  | 6, _ => wd_323
  | 7, _ => wd_325
  | 8, _ => wd_327
  | 9, _ => wd_329
  | 10, _ => wd_331
  | 11, _ => wd_333
  | 12, _ => wd_335
  | 13, _ => wd_337
  | n + 14, h => absurd h (by omega)
theorem in_Fa : ∀ w ∈ u_ws "StrataBase$Facts" tb_Fa 14, w ∈ tblG := fun w hw => by
  obtain ⟨k, hk, rfl⟩ := List.mem_map.mp hw
  exact la_Fa k (List.mem_range.mp hk)
theorem la_Ix : ∀ k, k < 9 → u_lay "StrataBase$Indexes" tb_Ix k ∈ tblG
  | 0, _ => wd_361
  | 1, _ => wd_363
  | 2, _ => wd_365
  | 3, _ => wd_367
  | 4, _ => wd_369
  | 5, _ => wd_371
  | 6, _ => wd_373
  | 7, _ => wd_375
  | 8, _ => wd_377
  | n + 9, h => absurd h (by omega)
theorem in_Ix : ∀ w ∈ u_ws "StrataBase$Indexes" tb_Ix 9, w ∈ tblG := fun w hw => by
  obtain ⟨k, hk, rfl⟩ := List.mem_map.mp hw
  exact la_Ix k (List.mem_range.mp hk)
theorem la_Jo : ∀ k, k < 11 → u_lay "StrataBase$Join" tb_Jo k ∈ tblG
  | 0, _ => wd_465
  | 1, _ => wd_467
  | 2, _ => wd_469
  | 3, _ => wd_471
  | 4, _ => wd_473
  | 5, _ => wd_475
  | 6, _ => wd_477
  | 7, _ => wd_479
  | 8, _ => wd_481
  | 9, _ => wd_483
  | 10, _ => wd_485
  | n + 11, h => absurd h (by omega)
theorem in_Jo : ∀ w ∈ u_ws "StrataBase$Join" tb_Jo 11, w ∈ tblG := fun w hw => by
  obtain ⟨k, hk, rfl⟩ := List.mem_map.mp hw
  exact la_Jo k (List.mem_range.mp hk)
theorem la_Na : ∀ k, k < 5 → u_lay "StrataBase$Names" tb_Na k ∈ tblG
  | 0, _ => wd_113
  | 1, _ => wd_115
  | 2, _ => wd_117
  | 3, _ => wd_119
  | 4, _ => wd_121
  | n + 5, h => absurd h (by omega)
theorem in_Na : ∀ w ∈ u_ws "StrataBase$Names" tb_Na 5, w ∈ tblG := fun w hw => by
  obtain ⟨k, hk, rfl⟩ := List.mem_map.mp hw
  exact la_Na k (List.mem_range.mp hk)
theorem la_Pr : ∀ k, k < 7 → u_lay "StrataBase$Program" tb_Pr k ∈ tblG
  | 0, _ => wd_162
  | 1, _ => wd_164
  | 2, _ => wd_166
  | 3, _ => wd_168
  | 4, _ => wd_170
  | 5, _ => wd_172
  | 6, _ => wd_174
  | n + 7, h => absurd h (by omega)
theorem in_Pr : ∀ w ∈ u_ws "StrataBase$Program" tb_Pr 7, w ∈ tblG := fun w hw => by
  obtain ⟨k, hk, rfl⟩ := List.mem_map.mp hw
  exact la_Pr k (List.mem_range.mp hk)
theorem la_Re : ∀ k, k < 19 → u_lay "StrataBase$Reader" tb_Re k ∈ tblG
  | 0, _ => wd_243
  | 1, _ => wd_245
  | 2, _ => wd_247
  | 3, _ => wd_249
  | 4, _ => wd_251
  | 5, _ => wd_253
  | 6, _ => wd_255
  | 7, _ => wd_257
  | 8, _ => wd_259
  | 9, _ => wd_261
  | 10, _ => wd_263
  | 11, _ => wd_265
  | 12, _ => wd_267
  | 13, _ => wd_269
  | 14, _ => wd_271
  | 15, _ => wd_273
  | 16, _ => wd_275
  | 17, _ => wd_277
  | 18, _ => wd_279
  | n + 19, h => absurd h (by omega)
theorem in_Re : ∀ w ∈ u_ws "StrataBase$Reader" tb_Re 19, w ∈ tblG := fun w hw => by
  obtain ⟨k, hk, rfl⟩ := List.mem_map.mp hw
  exact la_Re k (List.mem_range.mp hk)
theorem la_Ro : ∀ k, k < 6 → u_lay "StrataBase$Rows" tb_Ro k ∈ tblG
  | 0, _ => wd_504
  | 1, _ => wd_506
  | 2, _ => wd_508
  | 3, _ => wd_510
  | 4, _ => wd_512
  | 5, _ => wd_514
  | n + 6, h => absurd h (by omega)
theorem in_Ro : ∀ w ∈ u_ws "StrataBase$Rows" tb_Ro 6, w ∈ tblG := fun w hw => by
  obtain ⟨k, hk, rfl⟩ := List.mem_map.mp hw
  exact la_Ro k (List.mem_range.mp hk)
theorem la_St : ∀ k, k < 17 → u_lay "StrataBase$Step" tb_St k ∈ tblG
  | 0, _ => wd_418
  | 1, _ => wd_420
  | 2, _ => wd_422
  | 3, _ => wd_424
  | 4, _ => wd_426
  | 5, _ => wd_428
  | 6, _ => wd_430
  | 7, _ => wd_432
  | 8, _ => wd_434
  | 9, _ => wd_436
  | 10, _ => wd_438
  | 11, _ => wd_440
  | 12, _ => wd_442
  | 13, _ => wd_444
  | 14, _ => wd_446
  | 15, _ => wd_448
  | 16, _ => wd_450
  | n + 17, h => absurd h (by omega)
theorem in_St : ∀ w ∈ u_ws "StrataBase$Step" tb_St 17, w ∈ tblG := fun w hw => by
  obtain ⟨k, hk, rfl⟩ := List.mem_map.mp hw
  exact la_St k (List.mem_range.mp hk)
theorem la_To : ∀ k, k < 6 → u_lay "StrataBase$Tokens" tb_To k ∈ tblG
  | 0, _ => wd_205
  | 1, _ => wd_207
  | 2, _ => wd_209
  | 3, _ => wd_211
  | 4, _ => wd_213
  | 5, _ => wd_215
  | n + 6, h => absurd h (by omega)
theorem in_To : ∀ w ∈ u_ws "StrataBase$Tokens" tb_To 6, w ∈ tblG := fun w hw => by
  obtain ⟨k, hk, rfl⟩ := List.mem_map.mp hw
  exact la_To k (List.mem_range.mp hk)
theorem la_Mo : ∀ k, k < 64 → u_lay "StrataBaseModel" tb_Mo k ∈ tblG
  | 0, _ => wd_1434
  | 1, _ => wd_1436
  | 2, _ => wd_1438
  | 3, _ => wd_1440
  | 4, _ => wd_1442
  | 5, _ => wd_1444
  | 6, _ => wd_1446
  | 7, _ => wd_1448
  | 8, _ => wd_1450
  | 9, _ => wd_1452
  | 10, _ => wd_1454
  | 11, _ => wd_1456
  | 12, _ => wd_1458
  | 13, _ => wd_1460
  | 14, _ => wd_1462
  | 15, _ => wd_1464
  | 16, _ => wd_1466
  | 17, _ => wd_1468
  | 18, _ => wd_1470
  | 19, _ => wd_1472
  | 20, _ => wd_1474
  | 21, _ => wd_1476
  | 22, _ => wd_1478
  | 23, _ => wd_1480
  | 24, _ => wd_1482
  | 25, _ => wd_1484
  | 26, _ => wd_1486
  | 27, _ => wd_1488
  | 28, _ => wd_1490
  | 29, _ => wd_1492
  | 30, _ => wd_1494
  | 31, _ => wd_1496
  | 32, _ => wd_1498
  | 33, _ => wd_1500
  | 34, _ => wd_1502
  | 35, _ => wd_1504
  | 36, _ => wd_1506
  | 37, _ => wd_1508
  | 38, _ => wd_1510
  | 39, _ => wd_1512
  | 40, _ => wd_1514
  | 41, _ => wd_1516
  | 42, _ => wd_1518
  | 43, _ => wd_1520
  | 44, _ => wd_1522
  | 45, _ => wd_1524
  | 46, _ => wd_1526
  | 47, _ => wd_1528
  | 48, _ => wd_1530
  | 49, _ => wd_1532
  | 50, _ => wd_1534
  | 51, _ => wd_1536
  | 52, _ => wd_1538
  | 53, _ => wd_1540
  | 54, _ => wd_1542
  | 55, _ => wd_1544
  | 56, _ => wd_1546
  | 57, _ => wd_1548
  | 58, _ => wd_1550
  | 59, _ => wd_1552
  | 60, _ => wd_1554
  | 61, _ => wd_1556
  | 62, _ => wd_1558
  | 63, _ => wd_1560
  | n + 64, h => absurd h (by omega)
theorem in_Mo : ∀ w ∈ u_ws "StrataBaseModel" tb_Mo 64, w ∈ tblG := fun w hw => by
  obtain ⟨k, hk, rfl⟩ := List.mem_map.mp hw
  exact la_Mo k (List.mem_range.mp hk)
theorem gd_code {y : MethodName} {c : ByteArray} {n : Nat} {r : Option FieldType} (h : Cond.code y c n r ∈ tblG) : GoodIn tblG (Cond.code y c n r :: tblG) := fun w hw => (List.mem_cons.mp hw).elim (fun e => by rw [e]; exact tg_self h) tg_self
theorem gd_codeW {y : MethodName} {c : ByteArray} {n : Nat} {r : Option FieldType} {hh : List (Nat × Nat × Nat × Nat)} (h : Cond.codeWith y c n r hh ∈ tblG) : GoodIn tblG (Cond.codeWith y c n r hh :: tblG) := fun w hw => (List.mem_cons.mp hw).elim (fun e => by rw [e]; exact tg_self h) tg_self
theorem gd_V {own C : String} {idx : Nat} {y : MethodName} {c : ByteArray} {n : Nat} {r : Option FieldType} (h1 : Cond.methodLink own idx y ∈ tblG) (h2 : Cond.instanceMethod y ∈ tblG) (h3 : Cond.selects C y y ∈ tblG) (h4 : Cond.initialized C ∈ tblG) (h5 : Cond.code y c n r ∈ tblG) : GoodIn tblG (wsV own idx C y (Cond.code y c n r :: tblG)) := by
  intro w hw
  rcases List.mem_append.mp (show w ∈ ([.methodLink own idx y, .instanceMethod y, .selects C y y, .initialized C] : List Cond) ++ (Cond.code y c n r :: tblG) from hw) with hw | hw
  · simp only [List.mem_cons, List.not_mem_nil, or_false] at hw
    rcases hw with rfl | rfl | rfl | rfl
    · exact tg_self h1
    · exact tg_self h2
    · exact tg_self h3
    · exact tg_self h4
  · exact gd_code h5 w hw
theorem gd_S {own : String} {idx : Nat} {y : MethodName} {c : ByteArray} {n : Nat} {r : Option FieldType} (h1 : Cond.methodLink own idx y ∈ tblG) (h2 : Cond.static y ∈ tblG) (h4 : Cond.initialized y.cls ∈ tblG) (h5 : Cond.code y c n r ∈ tblG) : GoodIn tblG (va_wsS own idx y (Cond.code y c n r :: tblG)) := by
  intro w hw
  rcases List.mem_append.mp (show w ∈ ([.methodLink own idx y, .static y, .initialized y.cls] : List Cond) ++ (Cond.code y c n r :: tblG) from hw) with hw | hw
  · simp only [List.mem_cons, List.not_mem_nil, or_false] at hw
    rcases hw with rfl | rfl | rfl
    · exact tg_self h1
    · exact tg_self h2
    · exact tg_self h4
  · exact gd_code h5 w hw
theorem gd_SW {own : String} {idx : Nat} {y : MethodName} {c : ByteArray} {n : Nat} {r : Option FieldType} {hh : List (Nat × Nat × Nat × Nat)} (h1 : Cond.methodLink own idx y ∈ tblG) (h2 : Cond.static y ∈ tblG) (h4 : Cond.initialized y.cls ∈ tblG) (h5 : Cond.codeWith y c n r hh ∈ tblG) : GoodIn tblG (va_wsS own idx y (Cond.codeWith y c n r hh :: tblG)) := by
  intro w hw
  rcases List.mem_append.mp (show w ∈ ([.methodLink own idx y, .static y, .initialized y.cls] : List Cond) ++ (Cond.codeWith y c n r hh :: tblG) from hw) with hw | hw
  · simp only [List.mem_cons, List.not_mem_nil, or_false] at hw
    rcases hw with rfl | rfl | rfl
    · exact tg_self h1
    · exact tg_self h2
    · exact tg_self h4
  · exact gd_codeW h5 w hw
section LpLoop
variable {p : Program} {l : Launch} {e : Env} {R : Room} {s : State} {m : MethodId} {args : Array Value} {below : List Frame} {meth : Method} {c : Code} {cells slots : Nat} {Q : State → Prop}
/-- a counting loop -/
theorem lp_loop {pc : Nat} (N : Nat) (Inv : Nat → Heap → List Loc → Array Slot → Prop)
    (step : ∀ k : Nat, k < N → (∀ (H : Heap) (locs : List Loc) (ls : Array Slot), Inv (k + 1) H locs ls → W p l e R s m args below meth c H locs cells slots Q (F0 m pc ls [])) → ∀ (H : Heap) (locs : List Loc) (ls : Array Slot), Inv k H locs ls → W p l e R s m args below meth c H locs cells slots Q (F0 m pc ls []))
    (exit : ∀ (H : Heap) (locs : List Loc) (ls : Array Slot), Inv N H locs ls → W p l e R s m args below meth c H locs cells slots Q (F0 m pc ls []))
    {H : Heap} {locs : List Loc} {ls : Array Slot} (k0 : Nat) (hk : k0 ≤ N) (h0 : Inv k0 H locs ls) : W p l e R s m args below meth c H locs cells slots Q (F0 m pc ls []) := by
  have key : ∀ (d k : Nat), k + d = N → ∀ (H : Heap) (locs : List Loc) (ls : Array Slot), Inv k H locs ls → W p l e R s m args below meth c H locs cells slots Q (F0 m pc ls []) := by
    intro d
    induction d with
    | zero => intro k h; obtain rfl : k = N := by omega
              exact exit
    | succ d ih => intro k h; exact step k (by omega) (ih (k + 1) (by omega))
  exact key (N - k0) k0 (by omega) H locs ls h0
end LpLoop
