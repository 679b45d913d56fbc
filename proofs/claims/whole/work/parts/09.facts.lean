theorem in_of {ws : List Cond} (ps : List Nat) (hp : ws = ps.filterMap (fun i => lw_tbl[i]?)) (hg : ws.all goodWord = true) : ∀ w ∈ ws, w ∈ lw_good := by
  intro w hw
  have h1 := List.all_eq_true.mp hg w hw
  rw [hp] at hw
  obtain ⟨i, -, hi⟩ := List.mem_filterMap.mp hw
  exact tb_i i hi h1
theorem inX0 : ∀ w ∈ u_ws RX0 TX0 (clN 0), w ∈ lw_good := in_of [574, 576, 578, 580] (by decide +kernel) (by decide +kernel)
theorem cf_0 : CF 0 RX0 TX0 := ⟨rfl, inX0, tyX0_ok, nmX0⟩
theorem inX1 : ∀ w ∈ u_ws RX1 TX1 (clN 1), w ∈ lw_good := in_of [336, 338] (by decide +kernel) (by decide +kernel)
theorem cf_1 : CF 1 RX1 TX1 := ⟨rfl, inX1, tyX1_ok, nmX1⟩
theorem inX2 : ∀ w ∈ u_ws RX2 TX2 (clN 2), w ∈ lw_good := in_of [522, 524] (by decide +kernel) (by decide +kernel)
theorem cf_2 : CF 2 RX2 TX2 := ⟨rfl, inX2, tyX2_ok, nmX2⟩
theorem inX3 : ∀ w ∈ u_ws RX3 TX3 (clN 3), w ∈ lw_good := in_of [310, 312, 314, 316, 318] (by decide +kernel) (by decide +kernel)
theorem cf_3 : CF 3 RX3 TX3 := ⟨rfl, inX3, tyX3_ok, nmX3⟩
theorem inX4 : ∀ w ∈ u_ws RX4 TX4 (clN 4), w ∈ lw_good := in_of [539, 541, 543, 545, 547] (by decide +kernel) (by decide +kernel)
theorem cf_4 : CF 4 RX4 TX4 := ⟨rfl, inX4, tyX4_ok, nmX4⟩
theorem inX5 : ∀ w ∈ u_ws RX5 TX5 (clN 5), w ∈ lw_good := in_of [241, 243, 245, 247, 249, 251, 253, 255, 257, 259, 261, 263, 265, 267, 269, 271, 273] (by decide +kernel) (by decide +kernel)
theorem cf_5 : CF 5 RX5 TX5 := ⟨rfl, inX5, tyX5_ok, nmX5⟩
theorem inX6 : ∀ w ∈ u_ws RX6 TX6 (clN 6), w ∈ lw_good := in_of [483, 485, 487, 489, 491, 493, 495, 497, 499, 501, 503, 505, 507, 509] (by decide +kernel) (by decide +kernel)
theorem cf_6 : CF 6 RX6 TX6 := ⟨rfl, inX6, tyX6_ok, nmX6⟩
theorem inX7 : ∀ w ∈ u_ws RX7 TX7 (clN 7), w ∈ lw_good := in_of [435, 437, 439, 441, 443, 445, 447, 449, 451, 453, 455, 457, 459] (by decide +kernel) (by decide +kernel)
theorem cf_7 : CF 7 RX7 TX7 := ⟨rfl, inX7, tyX7_ok, nmX7⟩
theorem inX8 : ∀ w ∈ u_ws RX8 TX8 (clN 8), w ∈ lw_good := in_of [353, 355] (by decide +kernel) (by decide +kernel)
theorem cf_8 : CF 8 RX8 TX8 := ⟨rfl, inX8, tyX8_ok, nmX8⟩
theorem inX9 : ∀ w ∈ u_ws RX9 TX9 (clN 9), w ∈ lw_good := in_of [379, 381, 383, 385, 387, 389, 391, 393, 395, 397] (by decide +kernel) (by decide +kernel)
theorem cf_9 : CF 9 RX9 TX9 := ⟨rfl, inX9, tyX9_ok, nmX9⟩
theorem inX10 : ∀ w ∈ u_ws RX10 TX10 (clN 10), w ∈ lw_good := in_of [559, 561] (by decide +kernel) (by decide +kernel)
theorem cf_10 : CF 10 RX10 TX10 := ⟨rfl, inX10, tyX10_ok, nmX10⟩
theorem inX11 : ∀ w ∈ u_ws RX11 TX11 (clN 11), w ∈ lw_good := in_of [592, 594, 596, 598, 600, 602, 604, 606, 608] (by decide +kernel) (by decide +kernel)
theorem cf_11 : CF 11 RX11 TX11 := ⟨rfl, inX11, tyX11_ok, nmX11⟩
theorem inX12 : ∀ w ∈ u_ws RX12 TX12 (clN 12), w ∈ lw_good := in_of [1473, 1475, 1477, 1479, 1481, 1483, 1485, 1487, 1489, 1491, 1493, 1495, 1497, 1499, 1501, 1503, 1505, 1507, 1509, 1511, 1513, 1515, 1517, 1519, 1521, 1523, 1525, 1527, 1529, 1531, 1533, 1535, 1537, 1539, 1541, 1543, 1545, 1547, 1549, 1551, 1553, 1555, 1557, 1559, 1561, 1563, 1565, 1567, 1569, 1571, 1573, 1575, 1577, 1579, 1581, 1583, 1585, 1587, 1589, 1591, 1593, 1595, 1597, 1599, 1601, 1603, 1605, 1607] (by decide +kernel) (by decide +kernel)
theorem cf_12 : CF 12 RX12 TX12 := ⟨rfl, inX12, tyX12_ok, nmX12⟩
theorem fg_11_10 : FG RX11 10 11 0 (clT 11 0) true := ⟨RX11, TX11, cf_11, by decide, tb_i 583 (by decide +kernel) (by decide +kernel), rfl, rfl, rfl⟩
theorem fg_11_16 : FG RX11 16 11 1 (clT 11 1) true := ⟨RX11, TX11, cf_11, by decide, tb_i 584 (by decide +kernel) (by decide +kernel), rfl, rfl, rfl⟩
theorem fg_11_20 : FG RX11 20 11 2 (clT 11 2) true := ⟨RX11, TX11, cf_11, by decide, tb_i 585 (by decide +kernel) (by decide +kernel), rfl, rfl, rfl⟩
theorem fg_11_27 : FG RX11 27 11 3 (clT 11 3) true := ⟨RX11, TX11, cf_11, by decide, tb_i 586 (by decide +kernel) (by decide +kernel), rfl, rfl, rfl⟩
theorem fg_11_34 : FG RX11 34 11 4 (clT 11 4) true := ⟨RX11, TX11, cf_11, by decide, tb_i 587 (by decide +kernel) (by decide +kernel), rfl, rfl, rfl⟩
theorem fg_11_41 : FG RX11 41 11 5 (clT 11 5) true := ⟨RX11, TX11, cf_11, by decide, tb_i 588 (by decide +kernel) (by decide +kernel), rfl, rfl, rfl⟩
theorem fg_11_48 : FG RX11 48 11 6 (clT 11 6) true := ⟨RX11, TX11, cf_11, by decide, tb_i 589 (by decide +kernel) (by decide +kernel), rfl, rfl, rfl⟩
theorem fg_11_55 : FG RX11 55 11 7 (clT 11 7) true := ⟨RX11, TX11, cf_11, by decide, tb_i 590 (by decide +kernel) (by decide +kernel), rfl, rfl, rfl⟩
theorem fg_11_62 : FG RX11 62 11 8 (clT 11 8) true := ⟨RX11, TX11, cf_11, by decide, tb_i 591 (by decide +kernel) (by decide +kernel), rfl, rfl, rfl⟩
theorem fg_11_66 : FG RX11 66 9 1 (clT 9 1) false := ⟨RX9, TX9, cf_9, by decide, tb_i 360 (by decide +kernel) (by decide +kernel), rfl, rfl, rfl⟩
theorem fg_11_78 : FG RX11 78 9 2 (clT 9 2) false := ⟨RX9, TX9, cf_9, by decide, tb_i 364 (by decide +kernel) (by decide +kernel), rfl, rfl, rfl⟩
theorem fg_11_81 : FG RX11 81 9 3 (clT 9 3) false := ⟨RX9, TX9, cf_9, by decide, tb_i 366 (by decide +kernel) (by decide +kernel), rfl, rfl, rfl⟩
theorem fg_11_88 : FG RX11 88 7 5 (clT 7 5) false := ⟨RX7, TX7, cf_7, by decide, tb_i 426 (by decide +kernel) (by decide +kernel), rfl, rfl, rfl⟩
theorem fg_11_89 : FG RX11 89 7 6 (clT 7 6) false := ⟨RX7, TX7, cf_7, by decide, tb_i 428 (by decide +kernel) (by decide +kernel), rfl, rfl, rfl⟩
theorem fg_11_115 : FG RX11 115 3 4 (clT 3 4) false := ⟨RX3, TX3, cf_3, by decide, tb_i 308 (by decide +kernel) (by decide +kernel), rfl, rfl, rfl⟩
theorem fg_11_141 : FG RX11 141 1 0 (clT 1 0) true := ⟨RX1, TX1, cf_1, by decide, tb_i 331 (by decide +kernel) (by decide +kernel), rfl, rfl, rfl⟩
theorem fg_11_147 : FG RX11 147 1 1 (clT 1 1) true := ⟨RX1, TX1, cf_1, by decide, tb_i 335 (by decide +kernel) (by decide +kernel), rfl, rfl, rfl⟩
theorem fg_11_157 : FG RX11 157 2 1 (clT 2 1) false := ⟨RX2, TX2, cf_2, by decide, tb_i 521 (by decide +kernel) (by decide +kernel), rfl, rfl, rfl⟩
theorem fg_11_161 : FG RX11 161 2 0 (clT 2 0) true := ⟨RX2, TX2, cf_2, by decide, tb_i 519 (by decide +kernel) (by decide +kernel), rfl, rfl, rfl⟩
theorem fg_11_204 : FG RX11 204 5 2 (clT 5 2) true := ⟨RX5, TX5, cf_5, by decide, tb_i 194 (by decide +kernel) (by decide +kernel), rfl, rfl, rfl⟩
theorem fg_11_211 : FG RX11 211 5 12 (clT 5 12) false := ⟨RX5, TX5, cf_5, by decide, tb_i 226 (by decide +kernel) (by decide +kernel), rfl, rfl, rfl⟩
theorem fg_11_218 : FG RX11 218 5 3 (clT 5 3) false := ⟨RX5, TX5, cf_5, by decide, tb_i 201 (by decide +kernel) (by decide +kernel), rfl, rfl, rfl⟩
theorem fg_11_250 : FG RX11 250 5 16 (clT 5 16) false := ⟨RX5, TX5, cf_5, by decide, tb_i 240 (by decide +kernel) (by decide +kernel), rfl, rfl, rfl⟩
theorem fg_11_269 : FG RX11 269 3 2 (clT 3 2) true := ⟨RX3, TX3, cf_3, by decide, tb_i 295 (by decide +kernel) (by decide +kernel), rfl, rfl, rfl⟩
theorem fg_11_272 : FG RX11 272 3 3 (clT 3 3) true := ⟨RX3, TX3, cf_3, by decide, tb_i 301 (by decide +kernel) (by decide +kernel), rfl, rfl, rfl⟩
theorem fg_11_285 : FG RX11 285 10 0 (clT 10 0) true := ⟨RX10, TX10, cf_10, by decide, tb_i 557 (by decide +kernel) (by decide +kernel), rfl, rfl, rfl⟩
theorem fg_11_304 : FG RX11 304 8 1 (clT 8 1) true := ⟨RX8, TX8, cf_8, by decide, tb_i 352 (by decide +kernel) (by decide +kernel), rfl, rfl, rfl⟩
theorem fg_11_317 : FG RX11 317 9 4 (clT 9 4) true := ⟨RX9, TX9, cf_9, by decide, tb_i 368 (by decide +kernel) (by decide +kernel), rfl, rfl, rfl⟩
theorem fg_11_324 : FG RX11 324 9 5 (clT 9 5) true := ⟨RX9, TX9, cf_9, by decide, tb_i 370 (by decide +kernel) (by decide +kernel), rfl, rfl, rfl⟩
theorem fg_11_328 : FG RX11 328 7 0 (clT 7 0) true := ⟨RX7, TX7, cf_7, by decide, tb_i 416 (by decide +kernel) (by decide +kernel), rfl, rfl, rfl⟩
theorem fg_11_334 : FG RX11 334 9 6 (clT 9 6) true := ⟨RX9, TX9, cf_9, by decide, tb_i 372 (by decide +kernel) (by decide +kernel), rfl, rfl, rfl⟩
theorem fg_11_338 : FG RX11 338 7 1 (clT 7 1) true := ⟨RX7, TX7, cf_7, by decide, tb_i 418 (by decide +kernel) (by decide +kernel), rfl, rfl, rfl⟩
theorem fg_11_344 : FG RX11 344 9 7 (clT 9 7) true := ⟨RX9, TX9, cf_9, by decide, tb_i 374 (by decide +kernel) (by decide +kernel), rfl, rfl, rfl⟩
theorem fg_11_348 : FG RX11 348 7 2 (clT 7 2) true := ⟨RX7, TX7, cf_7, by decide, tb_i 420 (by decide +kernel) (by decide +kernel), rfl, rfl, rfl⟩
theorem fg_11_354 : FG RX11 354 9 8 (clT 9 8) true := ⟨RX9, TX9, cf_9, by decide, tb_i 376 (by decide +kernel) (by decide +kernel), rfl, rfl, rfl⟩
theorem fg_11_357 : FG RX11 357 7 3 (clT 7 3) true := ⟨RX7, TX7, cf_7, by decide, tb_i 422 (by decide +kernel) (by decide +kernel), rfl, rfl, rfl⟩
theorem fg_11_360 : FG RX11 360 9 9 (clT 9 9) true := ⟨RX9, TX9, cf_9, by decide, tb_i 378 (by decide +kernel) (by decide +kernel), rfl, rfl, rfl⟩
theorem fg_11_364 : FG RX11 364 7 4 (clT 7 4) true := ⟨RX7, TX7, cf_7, by decide, tb_i 424 (by decide +kernel) (by decide +kernel), rfl, rfl, rfl⟩
theorem fg_0_9 : FG RX0 9 0 0 (clT 0 0) false := ⟨RX0, TX0, cf_0, by decide, tb_i 570 (by decide +kernel) (by decide +kernel), rfl, rfl, rfl⟩
theorem fg_0_15 : FG RX0 15 0 1 (clT 0 1) false := ⟨RX0, TX0, cf_0, by decide, tb_i 571 (by decide +kernel) (by decide +kernel), rfl, rfl, rfl⟩
theorem fg_0_18 : FG RX0 18 0 2 (clT 0 2) false := ⟨RX0, TX0, cf_0, by decide, tb_i 572 (by decide +kernel) (by decide +kernel), rfl, rfl, rfl⟩
theorem fg_0_21 : FG RX0 21 5 2 (clT 5 2) true := ⟨RX5, TX5, cf_5, by decide, tb_i 191 (by decide +kernel) (by decide +kernel), rfl, rfl, rfl⟩
theorem fg_0_27 : FG RX0 27 0 3 (clT 0 3) false := ⟨RX0, TX0, cf_0, by decide, tb_i 573 (by decide +kernel) (by decide +kernel), rfl, rfl, rfl⟩
theorem fg_0_30 : FG RX0 30 5 3 (clT 5 3) false := ⟨RX5, TX5, cf_5, by decide, tb_i 197 (by decide +kernel) (by decide +kernel), rfl, rfl, rfl⟩
theorem fg_0_46 : FG RX0 46 5 14 (clT 5 14) false := ⟨RX5, TX5, cf_5, by decide, tb_i 231 (by decide +kernel) (by decide +kernel), rfl, rfl, rfl⟩
theorem fg_0_66 : FG RX0 66 5 4 (clT 5 4) true := ⟨RX5, TX5, cf_5, by decide, tb_i 203 (by decide +kernel) (by decide +kernel), rfl, rfl, rfl⟩
theorem fg_0_69 : FG RX0 69 5 13 (clT 5 13) false := ⟨RX5, TX5, cf_5, by decide, tb_i 228 (by decide +kernel) (by decide +kernel), rfl, rfl, rfl⟩
theorem fg_0_72 : FG RX0 72 5 12 (clT 5 12) false := ⟨RX5, TX5, cf_5, by decide, tb_i 223 (by decide +kernel) (by decide +kernel), rfl, rfl, rfl⟩
theorem fg_0_75 : FG RX0 75 5 6 (clT 5 6) true := ⟨RX5, TX5, cf_5, by decide, tb_i 211 (by decide +kernel) (by decide +kernel), rfl, rfl, rfl⟩
theorem fg_0_78 : FG RX0 78 5 5 (clT 5 5) true := ⟨RX5, TX5, cf_5, by decide, tb_i 207 (by decide +kernel) (by decide +kernel), rfl, rfl, rfl⟩
theorem fg_1_14 : FG RX1 14 1 0 (clT 1 0) true := ⟨RX1, TX1, cf_1, by decide, tb_i 328 (by decide +kernel) (by decide +kernel), rfl, rfl, rfl⟩
theorem fg_1_20 : FG RX1 20 1 1 (clT 1 1) true := ⟨RX1, TX1, cf_1, by decide, tb_i 332 (by decide +kernel) (by decide +kernel), rfl, rfl, rfl⟩
theorem fg_1_24 : FG RX1 24 3 4 (clT 3 4) false := ⟨RX3, TX3, cf_3, by decide, tb_i 303 (by decide +kernel) (by decide +kernel), rfl, rfl, rfl⟩
theorem fg_2_9 : FG RX2 9 2 0 (clT 2 0) true := ⟨RX2, TX2, cf_2, by decide, tb_i 518 (by decide +kernel) (by decide +kernel), rfl, rfl, rfl⟩
theorem fg_2_15 : FG RX2 15 2 1 (clT 2 1) false := ⟨RX2, TX2, cf_2, by decide, tb_i 520 (by decide +kernel) (by decide +kernel), rfl, rfl, rfl⟩
theorem fg_2_19 : FG RX2 19 5 10 (clT 5 10) true := ⟨RX5, TX5, cf_5, by decide, tb_i 219 (by decide +kernel) (by decide +kernel), rfl, rfl, rfl⟩
theorem fg_2_25 : FG RX2 25 1 0 (clT 1 0) true := ⟨RX1, TX1, cf_1, by decide, tb_i 329 (by decide +kernel) (by decide +kernel), rfl, rfl, rfl⟩
theorem fg_2_31 : FG RX2 31 3 4 (clT 3 4) false := ⟨RX3, TX3, cf_3, by decide, tb_i 306 (by decide +kernel) (by decide +kernel), rfl, rfl, rfl⟩
theorem fg_2_41 : FG RX2 41 3 1 (clT 3 1) true := ⟨RX3, TX3, cf_3, by decide, tb_i 289 (by decide +kernel) (by decide +kernel), rfl, rfl, rfl⟩
theorem fg_2_44 : FG RX2 44 3 3 (clT 3 3) true := ⟨RX3, TX3, cf_3, by decide, tb_i 298 (by decide +kernel) (by decide +kernel), rfl, rfl, rfl⟩
theorem fg_2_51 : FG RX2 51 3 2 (clT 3 2) true := ⟨RX3, TX3, cf_3, by decide, tb_i 292 (by decide +kernel) (by decide +kernel), rfl, rfl, rfl⟩
theorem fg_2_57 : FG RX2 57 1 1 (clT 1 1) true := ⟨RX1, TX1, cf_1, by decide, tb_i 333 (by decide +kernel) (by decide +kernel), rfl, rfl, rfl⟩
theorem fg_3_15 : FG RX3 15 3 0 (clT 3 0) true := ⟨RX3, TX3, cf_3, by decide, tb_i 286 (by decide +kernel) (by decide +kernel), rfl, rfl, rfl⟩
theorem fg_3_21 : FG RX3 21 3 1 (clT 3 1) true := ⟨RX3, TX3, cf_3, by decide, tb_i 287 (by decide +kernel) (by decide +kernel), rfl, rfl, rfl⟩
theorem fg_3_25 : FG RX3 25 3 2 (clT 3 2) true := ⟨RX3, TX3, cf_3, by decide, tb_i 290 (by decide +kernel) (by decide +kernel), rfl, rfl, rfl⟩
theorem fg_3_28 : FG RX3 28 3 3 (clT 3 3) true := ⟨RX3, TX3, cf_3, by decide, tb_i 296 (by decide +kernel) (by decide +kernel), rfl, rfl, rfl⟩
theorem fg_3_31 : FG RX3 31 3 4 (clT 3 4) false := ⟨RX3, TX3, cf_3, by decide, tb_i 302 (by decide +kernel) (by decide +kernel), rfl, rfl, rfl⟩
theorem fg_4_9 : FG RX4 9 4 0 (clT 4 0) true := ⟨RX4, TX4, cf_4, by decide, tb_i 534 (by decide +kernel) (by decide +kernel), rfl, rfl, rfl⟩
theorem fg_4_15 : FG RX4 15 4 1 (clT 4 1) true := ⟨RX4, TX4, cf_4, by decide, tb_i 535 (by decide +kernel) (by decide +kernel), rfl, rfl, rfl⟩
theorem fg_4_19 : FG RX4 19 4 2 (clT 4 2) true := ⟨RX4, TX4, cf_4, by decide, tb_i 536 (by decide +kernel) (by decide +kernel), rfl, rfl, rfl⟩
theorem fg_4_22 : FG RX4 22 4 3 (clT 4 3) true := ⟨RX4, TX4, cf_4, by decide, tb_i 537 (by decide +kernel) (by decide +kernel), rfl, rfl, rfl⟩
theorem fg_4_25 : FG RX4 25 4 4 (clT 4 4) true := ⟨RX4, TX4, cf_4, by decide, tb_i 538 (by decide +kernel) (by decide +kernel), rfl, rfl, rfl⟩
theorem fg_4_28 : FG RX4 28 5 3 (clT 5 3) false := ⟨RX5, TX5, cf_5, by decide, tb_i 195 (by decide +kernel) (by decide +kernel), rfl, rfl, rfl⟩
theorem fg_4_34 : FG RX4 34 5 12 (clT 5 12) false := ⟨RX5, TX5, cf_5, by decide, tb_i 221 (by decide +kernel) (by decide +kernel), rfl, rfl, rfl⟩
theorem fg_4_58 : FG RX4 58 5 2 (clT 5 2) true := ⟨RX5, TX5, cf_5, by decide, tb_i 193 (by decide +kernel) (by decide +kernel), rfl, rfl, rfl⟩
theorem fg_4_71 : FG RX4 71 5 4 (clT 5 4) true := ⟨RX5, TX5, cf_5, by decide, tb_i 204 (by decide +kernel) (by decide +kernel), rfl, rfl, rfl⟩
theorem fg_4_74 : FG RX4 74 5 13 (clT 5 13) false := ⟨RX5, TX5, cf_5, by decide, tb_i 229 (by decide +kernel) (by decide +kernel), rfl, rfl, rfl⟩
theorem fg_4_77 : FG RX4 77 5 6 (clT 5 6) true := ⟨RX5, TX5, cf_5, by decide, tb_i 212 (by decide +kernel) (by decide +kernel), rfl, rfl, rfl⟩
theorem fg_4_80 : FG RX4 80 5 5 (clT 5 5) true := ⟨RX5, TX5, cf_5, by decide, tb_i 208 (by decide +kernel) (by decide +kernel), rfl, rfl, rfl⟩
theorem fg_5_9 : FG RX5 9 5 1 (clT 5 1) true := ⟨RX5, TX5, cf_5, by decide, tb_i 188 (by decide +kernel) (by decide +kernel), rfl, rfl, rfl⟩
theorem fg_5_15 : FG RX5 15 5 2 (clT 5 2) true := ⟨RX5, TX5, cf_5, by decide, tb_i 190 (by decide +kernel) (by decide +kernel), rfl, rfl, rfl⟩
theorem fg_5_18 : FG RX5 18 5 4 (clT 5 4) true := ⟨RX5, TX5, cf_5, by decide, tb_i 202 (by decide +kernel) (by decide +kernel), rfl, rfl, rfl⟩
theorem fg_5_21 : FG RX5 21 5 5 (clT 5 5) true := ⟨RX5, TX5, cf_5, by decide, tb_i 206 (by decide +kernel) (by decide +kernel), rfl, rfl, rfl⟩
theorem fg_5_24 : FG RX5 24 5 6 (clT 5 6) true := ⟨RX5, TX5, cf_5, by decide, tb_i 210 (by decide +kernel) (by decide +kernel), rfl, rfl, rfl⟩
theorem fg_5_27 : FG RX5 27 5 7 (clT 5 7) true := ⟨RX5, TX5, cf_5, by decide, tb_i 213 (by decide +kernel) (by decide +kernel), rfl, rfl, rfl⟩
theorem fg_5_30 : FG RX5 30 5 8 (clT 5 8) true := ⟨RX5, TX5, cf_5, by decide, tb_i 215 (by decide +kernel) (by decide +kernel), rfl, rfl, rfl⟩
theorem fg_5_33 : FG RX5 33 5 9 (clT 5 9) true := ⟨RX5, TX5, cf_5, by decide, tb_i 217 (by decide +kernel) (by decide +kernel), rfl, rfl, rfl⟩
theorem fg_5_36 : FG RX5 36 5 10 (clT 5 10) true := ⟨RX5, TX5, cf_5, by decide, tb_i 218 (by decide +kernel) (by decide +kernel), rfl, rfl, rfl⟩
theorem fg_5_39 : FG RX5 39 5 11 (clT 5 11) true := ⟨RX5, TX5, cf_5, by decide, tb_i 220 (by decide +kernel) (by decide +kernel), rfl, rfl, rfl⟩
theorem fg_5_42 : FG RX5 42 5 0 (clT 5 0) false := ⟨RX5, TX5, cf_5, by decide, tb_i 185 (by decide +kernel) (by decide +kernel), rfl, rfl, rfl⟩
theorem fg_5_46 : FG RX5 46 5 3 (clT 5 3) false := ⟨RX5, TX5, cf_5, by decide, tb_i 196 (by decide +kernel) (by decide +kernel), rfl, rfl, rfl⟩
theorem fg_5_49 : FG RX5 49 5 12 (clT 5 12) false := ⟨RX5, TX5, cf_5, by decide, tb_i 222 (by decide +kernel) (by decide +kernel), rfl, rfl, rfl⟩
theorem fg_5_52 : FG RX5 52 5 13 (clT 5 13) false := ⟨RX5, TX5, cf_5, by decide, tb_i 227 (by decide +kernel) (by decide +kernel), rfl, rfl, rfl⟩
theorem fg_5_55 : FG RX5 55 5 14 (clT 5 14) false := ⟨RX5, TX5, cf_5, by decide, tb_i 232 (by decide +kernel) (by decide +kernel), rfl, rfl, rfl⟩
theorem fg_5_58 : FG RX5 58 5 15 (clT 5 15) false := ⟨RX5, TX5, cf_5, by decide, tb_i 234 (by decide +kernel) (by decide +kernel), rfl, rfl, rfl⟩
theorem fg_5_61 : FG RX5 61 5 16 (clT 5 16) false := ⟨RX5, TX5, cf_5, by decide, tb_i 237 (by decide +kernel) (by decide +kernel), rfl, rfl, rfl⟩
theorem fg_6_9 : FG RX6 9 6 9 (clT 6 9) true := ⟨RX6, TX6, cf_6, by decide, tb_i 478 (by decide +kernel) (by decide +kernel), rfl, rfl, rfl⟩
theorem fg_6_15 : FG RX6 15 6 10 (clT 6 10) true := ⟨RX6, TX6, cf_6, by decide, tb_i 479 (by decide +kernel) (by decide +kernel), rfl, rfl, rfl⟩
theorem fg_6_18 : FG RX6 18 6 11 (clT 6 11) true := ⟨RX6, TX6, cf_6, by decide, tb_i 480 (by decide +kernel) (by decide +kernel), rfl, rfl, rfl⟩
theorem fg_6_25 : FG RX6 25 3 4 (clT 3 4) false := ⟨RX3, TX3, cf_3, by decide, tb_i 305 (by decide +kernel) (by decide +kernel), rfl, rfl, rfl⟩
theorem fg_6_31 : FG RX6 31 3 1 (clT 3 1) true := ⟨RX3, TX3, cf_3, by decide, tb_i 288 (by decide +kernel) (by decide +kernel), rfl, rfl, rfl⟩
theorem fg_6_34 : FG RX6 34 3 2 (clT 3 2) true := ⟨RX3, TX3, cf_3, by decide, tb_i 291 (by decide +kernel) (by decide +kernel), rfl, rfl, rfl⟩
theorem fg_6_37 : FG RX6 37 3 3 (clT 3 3) true := ⟨RX3, TX3, cf_3, by decide, tb_i 297 (by decide +kernel) (by decide +kernel), rfl, rfl, rfl⟩
theorem fg_6_44 : FG RX6 44 6 0 (clT 6 0) false := ⟨RX6, TX6, cf_6, by decide, tb_i 469 (by decide +kernel) (by decide +kernel), rfl, rfl, rfl⟩
theorem fg_6_47 : FG RX6 47 6 1 (clT 6 1) false := ⟨RX6, TX6, cf_6, by decide, tb_i 470 (by decide +kernel) (by decide +kernel), rfl, rfl, rfl⟩
theorem fg_6_50 : FG RX6 50 6 2 (clT 6 2) false := ⟨RX6, TX6, cf_6, by decide, tb_i 471 (by decide +kernel) (by decide +kernel), rfl, rfl, rfl⟩
theorem fg_6_53 : FG RX6 53 6 3 (clT 6 3) false := ⟨RX6, TX6, cf_6, by decide, tb_i 472 (by decide +kernel) (by decide +kernel), rfl, rfl, rfl⟩
theorem fg_6_56 : FG RX6 56 6 4 (clT 6 4) false := ⟨RX6, TX6, cf_6, by decide, tb_i 473 (by decide +kernel) (by decide +kernel), rfl, rfl, rfl⟩
theorem fg_6_59 : FG RX6 59 6 5 (clT 6 5) false := ⟨RX6, TX6, cf_6, by decide, tb_i 474 (by decide +kernel) (by decide +kernel), rfl, rfl, rfl⟩
theorem fg_6_63 : FG RX6 63 6 6 (clT 6 6) false := ⟨RX6, TX6, cf_6, by decide, tb_i 475 (by decide +kernel) (by decide +kernel), rfl, rfl, rfl⟩
theorem fg_6_66 : FG RX6 66 6 7 (clT 6 7) false := ⟨RX6, TX6, cf_6, by decide, tb_i 476 (by decide +kernel) (by decide +kernel), rfl, rfl, rfl⟩
theorem fg_6_69 : FG RX6 69 6 8 (clT 6 8) false := ⟨RX6, TX6, cf_6, by decide, tb_i 477 (by decide +kernel) (by decide +kernel), rfl, rfl, rfl⟩
theorem fg_6_72 : FG RX6 72 6 12 (clT 6 12) false := ⟨RX6, TX6, cf_6, by decide, tb_i 481 (by decide +kernel) (by decide +kernel), rfl, rfl, rfl⟩
theorem fg_6_75 : FG RX6 75 6 13 (clT 6 13) false := ⟨RX6, TX6, cf_6, by decide, tb_i 482 (by decide +kernel) (by decide +kernel), rfl, rfl, rfl⟩
theorem fg_6_78 : FG RX6 78 5 2 (clT 5 2) true := ⟨RX5, TX5, cf_5, by decide, tb_i 192 (by decide +kernel) (by decide +kernel), rfl, rfl, rfl⟩
theorem fg_6_111 : FG RX6 111 5 12 (clT 5 12) false := ⟨RX5, TX5, cf_5, by decide, tb_i 224 (by decide +kernel) (by decide +kernel), rfl, rfl, rfl⟩
theorem fg_6_114 : FG RX6 114 5 3 (clT 5 3) false := ⟨RX5, TX5, cf_5, by decide, tb_i 200 (by decide +kernel) (by decide +kernel), rfl, rfl, rfl⟩
theorem fg_6_121 : FG RX6 121 5 5 (clT 5 5) true := ⟨RX5, TX5, cf_5, by decide, tb_i 209 (by decide +kernel) (by decide +kernel), rfl, rfl, rfl⟩
theorem fg_6_128 : FG RX6 128 5 0 (clT 5 0) false := ⟨RX5, TX5, cf_5, by decide, tb_i 187 (by decide +kernel) (by decide +kernel), rfl, rfl, rfl⟩
theorem fg_6_131 : FG RX6 131 5 1 (clT 5 1) true := ⟨RX5, TX5, cf_5, by decide, tb_i 189 (by decide +kernel) (by decide +kernel), rfl, rfl, rfl⟩
theorem fg_7_12 : FG RX7 12 7 0 (clT 7 0) true := ⟨RX7, TX7, cf_7, by decide, tb_i 415 (by decide +kernel) (by decide +kernel), rfl, rfl, rfl⟩
theorem fg_7_23 : FG RX7 23 7 1 (clT 7 1) true := ⟨RX7, TX7, cf_7, by decide, tb_i 417 (by decide +kernel) (by decide +kernel), rfl, rfl, rfl⟩
theorem fg_7_30 : FG RX7 30 7 2 (clT 7 2) true := ⟨RX7, TX7, cf_7, by decide, tb_i 419 (by decide +kernel) (by decide +kernel), rfl, rfl, rfl⟩
theorem fg_7_34 : FG RX7 34 7 3 (clT 7 3) true := ⟨RX7, TX7, cf_7, by decide, tb_i 421 (by decide +kernel) (by decide +kernel), rfl, rfl, rfl⟩
theorem fg_7_40 : FG RX7 40 7 4 (clT 7 4) true := ⟨RX7, TX7, cf_7, by decide, tb_i 423 (by decide +kernel) (by decide +kernel), rfl, rfl, rfl⟩
theorem fg_7_44 : FG RX7 44 7 7 (clT 7 7) true := ⟨RX7, TX7, cf_7, by decide, tb_i 429 (by decide +kernel) (by decide +kernel), rfl, rfl, rfl⟩
theorem fg_7_48 : FG RX7 48 7 5 (clT 7 5) false := ⟨RX7, TX7, cf_7, by decide, tb_i 425 (by decide +kernel) (by decide +kernel), rfl, rfl, rfl⟩
theorem fg_7_52 : FG RX7 52 7 6 (clT 7 6) false := ⟨RX7, TX7, cf_7, by decide, tb_i 427 (by decide +kernel) (by decide +kernel), rfl, rfl, rfl⟩
theorem fg_7_58 : FG RX7 58 7 10 (clT 7 10) false := ⟨RX7, TX7, cf_7, by decide, tb_i 432 (by decide +kernel) (by decide +kernel), rfl, rfl, rfl⟩
theorem fg_7_65 : FG RX7 65 7 8 (clT 7 8) false := ⟨RX7, TX7, cf_7, by decide, tb_i 430 (by decide +kernel) (by decide +kernel), rfl, rfl, rfl⟩
theorem fg_7_72 : FG RX7 72 7 9 (clT 7 9) false := ⟨RX7, TX7, cf_7, by decide, tb_i 431 (by decide +kernel) (by decide +kernel), rfl, rfl, rfl⟩
theorem fg_7_79 : FG RX7 79 7 12 (clT 7 12) false := ⟨RX7, TX7, cf_7, by decide, tb_i 434 (by decide +kernel) (by decide +kernel), rfl, rfl, rfl⟩
theorem fg_7_82 : FG RX7 82 5 3 (clT 5 3) false := ⟨RX5, TX5, cf_5, by decide, tb_i 198 (by decide +kernel) (by decide +kernel), rfl, rfl, rfl⟩
theorem fg_7_85 : FG RX7 85 9 1 (clT 9 1) false := ⟨RX9, TX9, cf_9, by decide, tb_i 362 (by decide +kernel) (by decide +kernel), rfl, rfl, rfl⟩
theorem fg_7_97 : FG RX7 97 3 4 (clT 3 4) false := ⟨RX3, TX3, cf_3, by decide, tb_i 307 (by decide +kernel) (by decide +kernel), rfl, rfl, rfl⟩
theorem fg_7_113 : FG RX7 113 7 11 (clT 7 11) false := ⟨RX7, TX7, cf_7, by decide, tb_i 433 (by decide +kernel) (by decide +kernel), rfl, rfl, rfl⟩
theorem fg_7_139 : FG RX7 139 9 0 (clT 9 0) true := ⟨RX9, TX9, cf_9, by decide, tb_i 359 (by decide +kernel) (by decide +kernel), rfl, rfl, rfl⟩
theorem fg_7_153 : FG RX7 153 5 0 (clT 5 0) false := ⟨RX5, TX5, cf_5, by decide, tb_i 186 (by decide +kernel) (by decide +kernel), rfl, rfl, rfl⟩
theorem fg_7_158 : FG RX7 158 1 0 (clT 1 0) true := ⟨RX1, TX1, cf_1, by decide, tb_i 330 (by decide +kernel) (by decide +kernel), rfl, rfl, rfl⟩
theorem fg_7_161 : FG RX7 161 8 0 (clT 8 0) true := ⟨RX8, TX8, cf_8, by decide, tb_i 349 (by decide +kernel) (by decide +kernel), rfl, rfl, rfl⟩
theorem fg_7_164 : FG RX7 164 8 1 (clT 8 1) true := ⟨RX8, TX8, cf_8, by decide, tb_i 351 (by decide +kernel) (by decide +kernel), rfl, rfl, rfl⟩
theorem fg_7_174 : FG RX7 174 1 1 (clT 1 1) true := ⟨RX1, TX1, cf_1, by decide, tb_i 334 (by decide +kernel) (by decide +kernel), rfl, rfl, rfl⟩
theorem fg_7_196 : FG RX7 196 5 12 (clT 5 12) false := ⟨RX5, TX5, cf_5, by decide, tb_i 225 (by decide +kernel) (by decide +kernel), rfl, rfl, rfl⟩
theorem fg_7_199 : FG RX7 199 5 13 (clT 5 13) false := ⟨RX5, TX5, cf_5, by decide, tb_i 230 (by decide +kernel) (by decide +kernel), rfl, rfl, rfl⟩
theorem fg_7_202 : FG RX7 202 5 14 (clT 5 14) false := ⟨RX5, TX5, cf_5, by decide, tb_i 233 (by decide +kernel) (by decide +kernel), rfl, rfl, rfl⟩
theorem fg_7_205 : FG RX7 205 5 15 (clT 5 15) false := ⟨RX5, TX5, cf_5, by decide, tb_i 236 (by decide +kernel) (by decide +kernel), rfl, rfl, rfl⟩
theorem fg_7_208 : FG RX7 208 5 16 (clT 5 16) false := ⟨RX5, TX5, cf_5, by decide, tb_i 239 (by decide +kernel) (by decide +kernel), rfl, rfl, rfl⟩
theorem fg_8_14 : FG RX8 14 8 0 (clT 8 0) true := ⟨RX8, TX8, cf_8, by decide, tb_i 348 (by decide +kernel) (by decide +kernel), rfl, rfl, rfl⟩
theorem fg_8_20 : FG RX8 20 8 1 (clT 8 1) true := ⟨RX8, TX8, cf_8, by decide, tb_i 350 (by decide +kernel) (by decide +kernel), rfl, rfl, rfl⟩
theorem fg_8_23 : FG RX8 23 3 4 (clT 3 4) false := ⟨RX3, TX3, cf_3, by decide, tb_i 304 (by decide +kernel) (by decide +kernel), rfl, rfl, rfl⟩
theorem fg_8_31 : FG RX8 31 3 2 (clT 3 2) true := ⟨RX3, TX3, cf_3, by decide, tb_i 293 (by decide +kernel) (by decide +kernel), rfl, rfl, rfl⟩
theorem fg_8_35 : FG RX8 35 3 3 (clT 3 3) true := ⟨RX3, TX3, cf_3, by decide, tb_i 299 (by decide +kernel) (by decide +kernel), rfl, rfl, rfl⟩
theorem fg_9_9 : FG RX9 9 9 0 (clT 9 0) true := ⟨RX9, TX9, cf_9, by decide, tb_i 358 (by decide +kernel) (by decide +kernel), rfl, rfl, rfl⟩
theorem fg_9_15 : FG RX9 15 9 3 (clT 9 3) false := ⟨RX9, TX9, cf_9, by decide, tb_i 365 (by decide +kernel) (by decide +kernel), rfl, rfl, rfl⟩
theorem fg_9_19 : FG RX9 19 9 4 (clT 9 4) true := ⟨RX9, TX9, cf_9, by decide, tb_i 367 (by decide +kernel) (by decide +kernel), rfl, rfl, rfl⟩
theorem fg_9_25 : FG RX9 25 9 5 (clT 9 5) true := ⟨RX9, TX9, cf_9, by decide, tb_i 369 (by decide +kernel) (by decide +kernel), rfl, rfl, rfl⟩
theorem fg_9_31 : FG RX9 31 9 6 (clT 9 6) true := ⟨RX9, TX9, cf_9, by decide, tb_i 371 (by decide +kernel) (by decide +kernel), rfl, rfl, rfl⟩
theorem fg_9_37 : FG RX9 37 9 7 (clT 9 7) true := ⟨RX9, TX9, cf_9, by decide, tb_i 373 (by decide +kernel) (by decide +kernel), rfl, rfl, rfl⟩
theorem fg_9_41 : FG RX9 41 9 8 (clT 9 8) true := ⟨RX9, TX9, cf_9, by decide, tb_i 375 (by decide +kernel) (by decide +kernel), rfl, rfl, rfl⟩
theorem fg_9_46 : FG RX9 46 9 9 (clT 9 9) true := ⟨RX9, TX9, cf_9, by decide, tb_i 377 (by decide +kernel) (by decide +kernel), rfl, rfl, rfl⟩
theorem fg_9_56 : FG RX9 56 9 1 (clT 9 1) false := ⟨RX9, TX9, cf_9, by decide, tb_i 361 (by decide +kernel) (by decide +kernel), rfl, rfl, rfl⟩
theorem fg_9_65 : FG RX9 65 9 2 (clT 9 2) false := ⟨RX9, TX9, cf_9, by decide, tb_i 363 (by decide +kernel) (by decide +kernel), rfl, rfl, rfl⟩
theorem fg_10_9 : FG RX10 9 10 0 (clT 10 0) true := ⟨RX10, TX10, cf_10, by decide, tb_i 556 (by decide +kernel) (by decide +kernel), rfl, rfl, rfl⟩
theorem fg_10_15 : FG RX10 15 10 1 (clT 10 1) true := ⟨RX10, TX10, cf_10, by decide, tb_i 558 (by decide +kernel) (by decide +kernel), rfl, rfl, rfl⟩
theorem fg_10_22 : FG RX10 22 5 3 (clT 5 3) false := ⟨RX5, TX5, cf_5, by decide, tb_i 199 (by decide +kernel) (by decide +kernel), rfl, rfl, rfl⟩
theorem fg_10_28 : FG RX10 28 5 8 (clT 5 8) true := ⟨RX5, TX5, cf_5, by decide, tb_i 216 (by decide +kernel) (by decide +kernel), rfl, rfl, rfl⟩
theorem fg_10_35 : FG RX10 35 5 15 (clT 5 15) false := ⟨RX5, TX5, cf_5, by decide, tb_i 235 (by decide +kernel) (by decide +kernel), rfl, rfl, rfl⟩
theorem fg_10_38 : FG RX10 38 5 7 (clT 5 7) true := ⟨RX5, TX5, cf_5, by decide, tb_i 214 (by decide +kernel) (by decide +kernel), rfl, rfl, rfl⟩
theorem fg_10_51 : FG RX10 51 5 16 (clT 5 16) false := ⟨RX5, TX5, cf_5, by decide, tb_i 238 (by decide +kernel) (by decide +kernel), rfl, rfl, rfl⟩
theorem fg_10_71 : FG RX10 71 3 4 (clT 3 4) false := ⟨RX3, TX3, cf_3, by decide, tb_i 309 (by decide +kernel) (by decide +kernel), rfl, rfl, rfl⟩
theorem fg_10_74 : FG RX10 74 3 2 (clT 3 2) true := ⟨RX3, TX3, cf_3, by decide, tb_i 294 (by decide +kernel) (by decide +kernel), rfl, rfl, rfl⟩
theorem fg_10_81 : FG RX10 81 3 3 (clT 3 3) true := ⟨RX3, TX3, cf_3, by decide, tb_i 300 (by decide +kernel) (by decide +kernel), rfl, rfl, rfl⟩
theorem fg_10_95 : FG RX10 95 5 4 (clT 5 4) true := ⟨RX5, TX5, cf_5, by decide, tb_i 205 (by decide +kernel) (by decide +kernel), rfl, rfl, rfl⟩
theorem fg_12_7 : FG RX12 7 12 1 (clT 12 1) true := ⟨RX12, TX12, cf_12, by decide, tb_i 1406 (by decide +kernel) (by decide +kernel), rfl, rfl, rfl⟩
theorem fg_12_13 : FG RX12 13 12 2 (clT 12 2) true := ⟨RX12, TX12, cf_12, by decide, tb_i 1407 (by decide +kernel) (by decide +kernel), rfl, rfl, rfl⟩
theorem fg_12_17 : FG RX12 17 12 3 (clT 12 3) true := ⟨RX12, TX12, cf_12, by decide, tb_i 1408 (by decide +kernel) (by decide +kernel), rfl, rfl, rfl⟩
theorem fg_12_20 : FG RX12 20 12 4 (clT 12 4) true := ⟨RX12, TX12, cf_12, by decide, tb_i 1409 (by decide +kernel) (by decide +kernel), rfl, rfl, rfl⟩
theorem fg_12_23 : FG RX12 23 12 5 (clT 12 5) true := ⟨RX12, TX12, cf_12, by decide, tb_i 1410 (by decide +kernel) (by decide +kernel), rfl, rfl, rfl⟩
theorem fg_12_26 : FG RX12 26 12 6 (clT 12 6) true := ⟨RX12, TX12, cf_12, by decide, tb_i 1411 (by decide +kernel) (by decide +kernel), rfl, rfl, rfl⟩
theorem fg_12_29 : FG RX12 29 12 7 (clT 12 7) true := ⟨RX12, TX12, cf_12, by decide, tb_i 1412 (by decide +kernel) (by decide +kernel), rfl, rfl, rfl⟩
theorem fg_12_32 : FG RX12 32 12 8 (clT 12 8) true := ⟨RX12, TX12, cf_12, by decide, tb_i 1413 (by decide +kernel) (by decide +kernel), rfl, rfl, rfl⟩
theorem fg_12_35 : FG RX12 35 12 9 (clT 12 9) true := ⟨RX12, TX12, cf_12, by decide, tb_i 1414 (by decide +kernel) (by decide +kernel), rfl, rfl, rfl⟩
theorem fg_12_38 : FG RX12 38 12 10 (clT 12 10) true := ⟨RX12, TX12, cf_12, by decide, tb_i 1415 (by decide +kernel) (by decide +kernel), rfl, rfl, rfl⟩
theorem fg_12_41 : FG RX12 41 12 20 (clT 12 20) true := ⟨RX12, TX12, cf_12, by decide, tb_i 1425 (by decide +kernel) (by decide +kernel), rfl, rfl, rfl⟩
theorem fg_12_44 : FG RX12 44 12 21 (clT 12 21) true := ⟨RX12, TX12, cf_12, by decide, tb_i 1426 (by decide +kernel) (by decide +kernel), rfl, rfl, rfl⟩
theorem fg_12_47 : FG RX12 47 12 40 (clT 12 40) true := ⟨RX12, TX12, cf_12, by decide, tb_i 1445 (by decide +kernel) (by decide +kernel), rfl, rfl, rfl⟩
theorem fg_12_50 : FG RX12 50 12 41 (clT 12 41) true := ⟨RX12, TX12, cf_12, by decide, tb_i 1446 (by decide +kernel) (by decide +kernel), rfl, rfl, rfl⟩
theorem fg_12_53 : FG RX12 53 12 42 (clT 12 42) true := ⟨RX12, TX12, cf_12, by decide, tb_i 1447 (by decide +kernel) (by decide +kernel), rfl, rfl, rfl⟩
theorem fg_12_56 : FG RX12 56 12 43 (clT 12 43) true := ⟨RX12, TX12, cf_12, by decide, tb_i 1448 (by decide +kernel) (by decide +kernel), rfl, rfl, rfl⟩
theorem fg_12_59 : FG RX12 59 12 44 (clT 12 44) true := ⟨RX12, TX12, cf_12, by decide, tb_i 1449 (by decide +kernel) (by decide +kernel), rfl, rfl, rfl⟩
theorem fg_12_62 : FG RX12 62 12 45 (clT 12 45) true := ⟨RX12, TX12, cf_12, by decide, tb_i 1450 (by decide +kernel) (by decide +kernel), rfl, rfl, rfl⟩
theorem fg_12_65 : FG RX12 65 12 47 (clT 12 47) true := ⟨RX12, TX12, cf_12, by decide, tb_i 1452 (by decide +kernel) (by decide +kernel), rfl, rfl, rfl⟩
theorem fg_12_69 : FG RX12 69 12 49 (clT 12 49) true := ⟨RX12, TX12, cf_12, by decide, tb_i 1454 (by decide +kernel) (by decide +kernel), rfl, rfl, rfl⟩
theorem fg_12_72 : FG RX12 72 12 50 (clT 12 50) true := ⟨RX12, TX12, cf_12, by decide, tb_i 1455 (by decide +kernel) (by decide +kernel), rfl, rfl, rfl⟩
theorem fg_12_75 : FG RX12 75 12 51 (clT 12 51) true := ⟨RX12, TX12, cf_12, by decide, tb_i 1456 (by decide +kernel) (by decide +kernel), rfl, rfl, rfl⟩
theorem fg_12_78 : FG RX12 78 12 52 (clT 12 52) true := ⟨RX12, TX12, cf_12, by decide, tb_i 1457 (by decide +kernel) (by decide +kernel), rfl, rfl, rfl⟩
theorem fg_12_81 : FG RX12 81 12 57 (clT 12 57) true := ⟨RX12, TX12, cf_12, by decide, tb_i 1462 (by decide +kernel) (by decide +kernel), rfl, rfl, rfl⟩
theorem fg_12_84 : FG RX12 84 12 59 (clT 12 59) true := ⟨RX12, TX12, cf_12, by decide, tb_i 1464 (by decide +kernel) (by decide +kernel), rfl, rfl, rfl⟩
theorem fg_12_87 : FG RX12 87 12 61 (clT 12 61) true := ⟨RX12, TX12, cf_12, by decide, tb_i 1466 (by decide +kernel) (by decide +kernel), rfl, rfl, rfl⟩
theorem fg_12_90 : FG RX12 90 12 62 (clT 12 62) true := ⟨RX12, TX12, cf_12, by decide, tb_i 1467 (by decide +kernel) (by decide +kernel), rfl, rfl, rfl⟩
theorem fg_12_93 : FG RX12 93 12 67 (clT 12 67) true := ⟨RX12, TX12, cf_12, by decide, tb_i 1472 (by decide +kernel) (by decide +kernel), rfl, rfl, rfl⟩
theorem fg_12_97 : FG RX12 97 12 0 (clT 12 0) false := ⟨RX12, TX12, cf_12, by decide, tb_i 1405 (by decide +kernel) (by decide +kernel), rfl, rfl, rfl⟩
theorem fg_12_113 : FG RX12 113 12 11 (clT 12 11) false := ⟨RX12, TX12, cf_12, by decide, tb_i 1416 (by decide +kernel) (by decide +kernel), rfl, rfl, rfl⟩
theorem fg_12_116 : FG RX12 116 12 12 (clT 12 12) false := ⟨RX12, TX12, cf_12, by decide, tb_i 1417 (by decide +kernel) (by decide +kernel), rfl, rfl, rfl⟩
theorem fg_12_123 : FG RX12 123 12 13 (clT 12 13) false := ⟨RX12, TX12, cf_12, by decide, tb_i 1418 (by decide +kernel) (by decide +kernel), rfl, rfl, rfl⟩
theorem fg_12_126 : FG RX12 126 12 16 (clT 12 16) false := ⟨RX12, TX12, cf_12, by decide, tb_i 1421 (by decide +kernel) (by decide +kernel), rfl, rfl, rfl⟩
theorem fg_12_130 : FG RX12 130 12 14 (clT 12 14) false := ⟨RX12, TX12, cf_12, by decide, tb_i 1419 (by decide +kernel) (by decide +kernel), rfl, rfl, rfl⟩
theorem fg_12_133 : FG RX12 133 12 15 (clT 12 15) false := ⟨RX12, TX12, cf_12, by decide, tb_i 1420 (by decide +kernel) (by decide +kernel), rfl, rfl, rfl⟩
theorem fg_12_136 : FG RX12 136 12 17 (clT 12 17) false := ⟨RX12, TX12, cf_12, by decide, tb_i 1422 (by decide +kernel) (by decide +kernel), rfl, rfl, rfl⟩
theorem fg_12_139 : FG RX12 139 12 18 (clT 12 18) false := ⟨RX12, TX12, cf_12, by decide, tb_i 1423 (by decide +kernel) (by decide +kernel), rfl, rfl, rfl⟩
theorem fg_12_142 : FG RX12 142 12 19 (clT 12 19) false := ⟨RX12, TX12, cf_12, by decide, tb_i 1424 (by decide +kernel) (by decide +kernel), rfl, rfl, rfl⟩
theorem fg_12_153 : FG RX12 153 12 23 (clT 12 23) false := ⟨RX12, TX12, cf_12, by decide, tb_i 1428 (by decide +kernel) (by decide +kernel), rfl, rfl, rfl⟩
theorem fg_12_164 : FG RX12 164 12 22 (clT 12 22) false := ⟨RX12, TX12, cf_12, by decide, tb_i 1427 (by decide +kernel) (by decide +kernel), rfl, rfl, rfl⟩
theorem fg_12_310 : FG RX12 310 12 24 (clT 12 24) false := ⟨RX12, TX12, cf_12, by decide, tb_i 1429 (by decide +kernel) (by decide +kernel), rfl, rfl, rfl⟩
theorem fg_12_316 : FG RX12 316 12 25 (clT 12 25) false := ⟨RX12, TX12, cf_12, by decide, tb_i 1430 (by decide +kernel) (by decide +kernel), rfl, rfl, rfl⟩
theorem fg_12_319 : FG RX12 319 12 26 (clT 12 26) false := ⟨RX12, TX12, cf_12, by decide, tb_i 1431 (by decide +kernel) (by decide +kernel), rfl, rfl, rfl⟩
theorem fg_12_322 : FG RX12 322 12 27 (clT 12 27) false := ⟨RX12, TX12, cf_12, by decide, tb_i 1432 (by decide +kernel) (by decide +kernel), rfl, rfl, rfl⟩
theorem fg_12_325 : FG RX12 325 12 28 (clT 12 28) false := ⟨RX12, TX12, cf_12, by decide, tb_i 1433 (by decide +kernel) (by decide +kernel), rfl, rfl, rfl⟩
theorem fg_12_337 : FG RX12 337 12 29 (clT 12 29) false := ⟨RX12, TX12, cf_12, by decide, tb_i 1434 (by decide +kernel) (by decide +kernel), rfl, rfl, rfl⟩
theorem fg_12_349 : FG RX12 349 12 30 (clT 12 30) false := ⟨RX12, TX12, cf_12, by decide, tb_i 1435 (by decide +kernel) (by decide +kernel), rfl, rfl, rfl⟩
theorem fg_12_352 : FG RX12 352 12 31 (clT 12 31) false := ⟨RX12, TX12, cf_12, by decide, tb_i 1436 (by decide +kernel) (by decide +kernel), rfl, rfl, rfl⟩
theorem fg_12_355 : FG RX12 355 12 32 (clT 12 32) false := ⟨RX12, TX12, cf_12, by decide, tb_i 1437 (by decide +kernel) (by decide +kernel), rfl, rfl, rfl⟩
theorem fg_12_358 : FG RX12 358 12 33 (clT 12 33) false := ⟨RX12, TX12, cf_12, by decide, tb_i 1438 (by decide +kernel) (by decide +kernel), rfl, rfl, rfl⟩
theorem fg_12_361 : FG RX12 361 12 34 (clT 12 34) false := ⟨RX12, TX12, cf_12, by decide, tb_i 1439 (by decide +kernel) (by decide +kernel), rfl, rfl, rfl⟩
theorem fg_12_364 : FG RX12 364 12 35 (clT 12 35) false := ⟨RX12, TX12, cf_12, by decide, tb_i 1440 (by decide +kernel) (by decide +kernel), rfl, rfl, rfl⟩
theorem fg_12_367 : FG RX12 367 12 36 (clT 12 36) false := ⟨RX12, TX12, cf_12, by decide, tb_i 1441 (by decide +kernel) (by decide +kernel), rfl, rfl, rfl⟩
theorem fg_12_370 : FG RX12 370 12 37 (clT 12 37) false := ⟨RX12, TX12, cf_12, by decide, tb_i 1442 (by decide +kernel) (by decide +kernel), rfl, rfl, rfl⟩
theorem fg_12_373 : FG RX12 373 12 38 (clT 12 38) false := ⟨RX12, TX12, cf_12, by decide, tb_i 1443 (by decide +kernel) (by decide +kernel), rfl, rfl, rfl⟩
theorem fg_12_376 : FG RX12 376 12 39 (clT 12 39) false := ⟨RX12, TX12, cf_12, by decide, tb_i 1444 (by decide +kernel) (by decide +kernel), rfl, rfl, rfl⟩
theorem fg_12_421 : FG RX12 421 12 46 (clT 12 46) false := ⟨RX12, TX12, cf_12, by decide, tb_i 1451 (by decide +kernel) (by decide +kernel), rfl, rfl, rfl⟩
theorem fg_12_433 : FG RX12 433 12 48 (clT 12 48) false := ⟨RX12, TX12, cf_12, by decide, tb_i 1453 (by decide +kernel) (by decide +kernel), rfl, rfl, rfl⟩
theorem fg_12_467 : FG RX12 467 12 53 (clT 12 53) false := ⟨RX12, TX12, cf_12, by decide, tb_i 1458 (by decide +kernel) (by decide +kernel), rfl, rfl, rfl⟩
theorem fg_12_470 : FG RX12 470 12 54 (clT 12 54) false := ⟨RX12, TX12, cf_12, by decide, tb_i 1459 (by decide +kernel) (by decide +kernel), rfl, rfl, rfl⟩
theorem fg_12_473 : FG RX12 473 12 55 (clT 12 55) false := ⟨RX12, TX12, cf_12, by decide, tb_i 1460 (by decide +kernel) (by decide +kernel), rfl, rfl, rfl⟩
theorem fg_12_489 : FG RX12 489 12 56 (clT 12 56) false := ⟨RX12, TX12, cf_12, by decide, tb_i 1461 (by decide +kernel) (by decide +kernel), rfl, rfl, rfl⟩
theorem fg_12_527 : FG RX12 527 12 58 (clT 12 58) false := ⟨RX12, TX12, cf_12, by decide, tb_i 1463 (by decide +kernel) (by decide +kernel), rfl, rfl, rfl⟩
theorem fg_12_563 : FG RX12 563 12 60 (clT 12 60) false := ⟨RX12, TX12, cf_12, by decide, tb_i 1465 (by decide +kernel) (by decide +kernel), rfl, rfl, rfl⟩
theorem fg_12_596 : FG RX12 596 12 63 (clT 12 63) false := ⟨RX12, TX12, cf_12, by decide, tb_i 1468 (by decide +kernel) (by decide +kernel), rfl, rfl, rfl⟩
theorem fg_12_620 : FG RX12 620 12 64 (clT 12 64) false := ⟨RX12, TX12, cf_12, by decide, tb_i 1469 (by decide +kernel) (by decide +kernel), rfl, rfl, rfl⟩
theorem fg_12_624 : FG RX12 624 12 65 (clT 12 65) false := ⟨RX12, TX12, cf_12, by decide, tb_i 1470 (by decide +kernel) (by decide +kernel), rfl, rfl, rfl⟩
theorem fg_12_630 : FG RX12 630 12 66 (clT 12 66) false := ⟨RX12, TX12, cf_12, by decide, tb_i 1471 (by decide +kernel) (by decide +kernel), rfl, rfl, rfl⟩
theorem wt_1_0 {a : Nat} (ho : OB L0 a 1) : RF L0 a 0 (gR a 0) ∧ OB L0 (gR a 0) 3 := ckO_use (any := false) (kk := 0) (nn := 3) (by decide +kernel) ho
theorem wt_1_1 {a : Nat} (ho : OB L0 a 1) : RF L0 a 1 (gR a 1) ∧ AR L0 (gR a 1) 1 8 := ckO_use (any := false) (kk := 1) (nn := 8) (by decide +kernel) ho
theorem wt_2_0 {a : Nat} (ho : OB L0 a 2) : RF L0 a 0 (gR a 0) ∧ AR L0 (gR a 0) 2 8 := ckO_use (any := false) (kk := 2) (nn := 8) (by decide +kernel) ho
theorem wt_3_1 {a : Nat} (ho : OB L0 a 3) : RF L0 a 1 (gR a 1) ∧ AR L0 (gR a 1) 1 (ln (gR a 1)) := ckO_use (any := true) (kk := 1) (nn := 0) (by decide +kernel) ho
theorem wt_3_2 {a : Nat} (ho : OB L0 a 3) : RF L0 a 2 (gR a 2) ∧ AR L0 (gR a 2) 1 (ln (gR a 2)) := ckO_use (any := true) (kk := 1) (nn := 0) (by decide +kernel) ho
theorem wt_3_3 {a : Nat} (ho : OB L0 a 3) : RF L0 a 3 (gR a 3) ∧ AR L0 (gR a 3) 1 (ln (gR a 3)) := ckO_use (any := true) (kk := 1) (nn := 0) (by decide +kernel) ho
theorem wt_4_0 {a : Nat} (ho : OB L0 a 4) : RF L0 a 0 (gR a 0) ∧ AR L0 (gR a 0) 1 8 := ckO_use (any := false) (kk := 1) (nn := 8) (by decide +kernel) ho
theorem wt_4_1 {a : Nat} (ho : OB L0 a 4) : RF L0 a 1 (gR a 1) ∧ AR L0 (gR a 1) 2 137 := ckO_use (any := false) (kk := 2) (nn := 137) (by decide +kernel) ho
theorem wt_4_2 {a : Nat} (ho : OB L0 a 4) : RF L0 a 2 (gR a 2) ∧ AR L0 (gR a 2) 2 137 := ckO_use (any := false) (kk := 2) (nn := 137) (by decide +kernel) ho
theorem wt_4_3 {a : Nat} (ho : OB L0 a 4) : RF L0 a 3 (gR a 3) ∧ AR L0 (gR a 3) 2 32 := ckO_use (any := false) (kk := 2) (nn := 32) (by decide +kernel) ho
theorem wt_4_4 {a : Nat} (ho : OB L0 a 4) : RF L0 a 4 (gR a 4) ∧ AR L0 (gR a 4) 2 496 := ckO_use (any := false) (kk := 2) (nn := 496) (by decide +kernel) ho
theorem wt_5_1 {a : Nat} (ho : OB L0 a 5) : RF L0 a 1 (gR a 1) ∧ AR L0 (gR a 1) 1 5 := ckO_use (any := false) (kk := 1) (nn := 5) (by decide +kernel) ho
theorem wt_5_2 {a : Nat} (ho : OB L0 a 5) : RF L0 a 2 (gR a 2) ∧ AR L0 (gR a 2) 1 5 := ckO_use (any := false) (kk := 1) (nn := 5) (by decide +kernel) ho
theorem wt_5_4 {a : Nat} (ho : OB L0 a 5) : RF L0 a 4 (gR a 4) ∧ AR L0 (gR a 4) 1 8 := ckO_use (any := false) (kk := 1) (nn := 8) (by decide +kernel) ho
theorem wt_5_5 {a : Nat} (ho : OB L0 a 5) : RF L0 a 5 (gR a 5) ∧ AR L0 (gR a 5) 1 8 := ckO_use (any := false) (kk := 1) (nn := 8) (by decide +kernel) ho
theorem wt_5_6 {a : Nat} (ho : OB L0 a 5) : RF L0 a 6 (gR a 6) ∧ AR L0 (gR a 6) 1 8 := ckO_use (any := false) (kk := 1) (nn := 8) (by decide +kernel) ho
theorem wt_5_7 {a : Nat} (ho : OB L0 a 5) : RF L0 a 7 (gR a 7) ∧ AR L0 (gR a 7) 1 8 := ckO_use (any := false) (kk := 1) (nn := 8) (by decide +kernel) ho
theorem wt_5_8 {a : Nat} (ho : OB L0 a 5) : RF L0 a 8 (gR a 8) ∧ AR L0 (gR a 8) 1 8 := ckO_use (any := false) (kk := 1) (nn := 8) (by decide +kernel) ho
theorem wt_5_9 {a : Nat} (ho : OB L0 a 5) : RF L0 a 9 (gR a 9) ∧ AR L0 (gR a 9) 1 64 := ckO_use (any := false) (kk := 1) (nn := 64) (by decide +kernel) ho
theorem wt_5_10 {a : Nat} (ho : OB L0 a 5) : RF L0 a 10 (gR a 10) ∧ AR L0 (gR a 10) 1 8 := ckO_use (any := false) (kk := 1) (nn := 8) (by decide +kernel) ho
theorem wt_5_11 {a : Nat} (ho : OB L0 a 5) : RF L0 a 11 (gR a 11) ∧ AR L0 (gR a 11) 1 3 := ckO_use (any := false) (kk := 1) (nn := 3) (by decide +kernel) ho
theorem wt_6_9 {a : Nat} (ho : OB L0 a 6) : RF L0 a 9 (gR a 9) ∧ AR L0 (gR a 9) 1 5 := ckO_use (any := false) (kk := 1) (nn := 5) (by decide +kernel) ho
theorem wt_6_10 {a : Nat} (ho : OB L0 a 6) : RF L0 a 10 (gR a 10) ∧ AR L0 (gR a 10) 1 24 := ckO_use (any := false) (kk := 1) (nn := 24) (by decide +kernel) ho
theorem wt_6_11 {a : Nat} (ho : OB L0 a 6) : RF L0 a 11 (gR a 11) ∧ AR L0 (gR a 11) 1 8 := ckO_use (any := false) (kk := 1) (nn := 8) (by decide +kernel) ho
theorem wt_7_0 {a : Nat} (ho : OB L0 a 7) : RF L0 a 0 (gR a 0) ∧ OB L0 (gR a 0) 5 := ckO_use (any := false) (kk := 0) (nn := 5) (by decide +kernel) ho
theorem wt_7_1 {a : Nat} (ho : OB L0 a 7) : RF L0 a 1 (gR a 1) ∧ OB L0 (gR a 1) 3 := ckO_use (any := false) (kk := 0) (nn := 3) (by decide +kernel) ho
theorem wt_7_2 {a : Nat} (ho : OB L0 a 7) : RF L0 a 2 (gR a 2) ∧ OB L0 (gR a 2) 1 := ckO_use (any := false) (kk := 0) (nn := 1) (by decide +kernel) ho
theorem wt_7_3 {a : Nat} (ho : OB L0 a 7) : RF L0 a 3 (gR a 3) ∧ OB L0 (gR a 3) 3 := ckO_use (any := false) (kk := 0) (nn := 3) (by decide +kernel) ho
theorem wt_7_4 {a : Nat} (ho : OB L0 a 7) : RF L0 a 4 (gR a 4) ∧ OB L0 (gR a 4) 8 := ckO_use (any := false) (kk := 0) (nn := 8) (by decide +kernel) ho
theorem wt_7_7 {a : Nat} (ho : OB L0 a 7) : RF L0 a 7 (gR a 7) ∧ AR L0 (gR a 7) 1 4 := ckO_use (any := false) (kk := 1) (nn := 4) (by decide +kernel) ho
theorem wt_8_0 {a : Nat} (ho : OB L0 a 8) : RF L0 a 0 (gR a 0) ∧ OB L0 (gR a 0) 3 := ckO_use (any := false) (kk := 0) (nn := 3) (by decide +kernel) ho
theorem wt_8_1 {a : Nat} (ho : OB L0 a 8) : RF L0 a 1 (gR a 1) ∧ OB L0 (gR a 1) 3 := ckO_use (any := false) (kk := 0) (nn := 3) (by decide +kernel) ho
theorem wt_9_0 {a : Nat} (ho : OB L0 a 9) : RF L0 a 0 (gR a 0) ∧ AR L0 (gR a 0) 3 600 := ckO_use (any := false) (kk := 3) (nn := 600) (by decide +kernel) ho
theorem wt_9_4 {a : Nat} (ho : OB L0 a 9) : RF L0 a 4 (gR a 4) ∧ AR L0 (gR a 4) 1 5 := ckO_use (any := false) (kk := 1) (nn := 5) (by decide +kernel) ho
theorem wt_9_5 {a : Nat} (ho : OB L0 a 9) : RF L0 a 5 (gR a 5) ∧ AR L0 (gR a 5) 7 2 := ckO_use (any := false) (kk := 7) (nn := 2) (by decide +kernel) ho
theorem wt_9_6 {a : Nat} (ho : OB L0 a 9) : RF L0 a 6 (gR a 6) ∧ AR L0 (gR a 6) 6 2 := ckO_use (any := false) (kk := 6) (nn := 2) (by decide +kernel) ho
theorem wt_9_7 {a : Nat} (ho : OB L0 a 9) : RF L0 a 7 (gR a 7) ∧ AR L0 (gR a 7) 5 2 := ckO_use (any := false) (kk := 5) (nn := 2) (by decide +kernel) ho
theorem wt_9_8 {a : Nat} (ho : OB L0 a 9) : RF L0 a 8 (gR a 8) ∧ AR L0 (gR a 8) 6 2 := ckO_use (any := false) (kk := 6) (nn := 2) (by decide +kernel) ho
theorem wt_9_9 {a : Nat} (ho : OB L0 a 9) : RF L0 a 9 (gR a 9) ∧ AR L0 (gR a 9) 8 2 := ckO_use (any := false) (kk := 8) (nn := 2) (by decide +kernel) ho
theorem wt_10_0 {a : Nat} (ho : OB L0 a 10) : RF L0 a 0 (gR a 0) ∧ AR L0 (gR a 0) 1 8 := ckO_use (any := false) (kk := 1) (nn := 8) (by decide +kernel) ho
theorem wt_10_1 {a : Nat} (ho : OB L0 a 10) : RF L0 a 1 (gR a 1) ∧ AR L0 (gR a 1) 1 8 := ckO_use (any := false) (kk := 1) (nn := 8) (by decide +kernel) ho
theorem wt_11_0 {a : Nat} (ho : OB L0 a 11) : RF L0 a 0 (gR a 0) ∧ OB L0 (gR a 0) 9 := ckO_use (any := false) (kk := 0) (nn := 9) (by decide +kernel) ho
theorem wt_11_1 {a : Nat} (ho : OB L0 a 11) : RF L0 a 1 (gR a 1) ∧ AR L0 (gR a 1) 9 3 := ckO_use (any := false) (kk := 9) (nn := 3) (by decide +kernel) ho
theorem wt_11_2 {a : Nat} (ho : OB L0 a 11) : RF L0 a 2 (gR a 2) ∧ AR L0 (gR a 2) 4 3 := ckO_use (any := false) (kk := 4) (nn := 3) (by decide +kernel) ho
theorem wt_11_3 {a : Nat} (ho : OB L0 a 11) : RF L0 a 3 (gR a 3) ∧ OB L0 (gR a 3) 7 := ckO_use (any := false) (kk := 0) (nn := 7) (by decide +kernel) ho
theorem wt_11_4 {a : Nat} (ho : OB L0 a 11) : RF L0 a 4 (gR a 4) ∧ OB L0 (gR a 4) 6 := ckO_use (any := false) (kk := 0) (nn := 6) (by decide +kernel) ho
theorem wt_11_5 {a : Nat} (ho : OB L0 a 11) : RF L0 a 5 (gR a 5) ∧ OB L0 (gR a 5) 2 := ckO_use (any := false) (kk := 0) (nn := 2) (by decide +kernel) ho
theorem wt_11_6 {a : Nat} (ho : OB L0 a 11) : RF L0 a 6 (gR a 6) ∧ OB L0 (gR a 6) 4 := ckO_use (any := false) (kk := 0) (nn := 4) (by decide +kernel) ho
theorem wt_11_7 {a : Nat} (ho : OB L0 a 11) : RF L0 a 7 (gR a 7) ∧ OB L0 (gR a 7) 10 := ckO_use (any := false) (kk := 0) (nn := 10) (by decide +kernel) ho
theorem wt_11_8 {a : Nat} (ho : OB L0 a 11) : RF L0 a 8 (gR a 8) ∧ OB L0 (gR a 8) 0 := ckO_use (any := false) (kk := 0) (nn := 0) (by decide +kernel) ho
theorem wt_12_1 {a : Nat} (ho : OB L0 a 12) : RF L0 a 1 (gR a 1) ∧ AR L0 (gR a 1) 3 2400 := ckO_use (any := false) (kk := 3) (nn := 2400) (by decide +kernel) ho
theorem wt_12_2 {a : Nat} (ho : OB L0 a 12) : RF L0 a 2 (gR a 2) ∧ AR L0 (gR a 2) 1 4 := ckO_use (any := false) (kk := 1) (nn := 4) (by decide +kernel) ho
theorem wt_12_3 {a : Nat} (ho : OB L0 a 12) : RF L0 a 3 (gR a 3) ∧ AR L0 (gR a 3) 1 4 := ckO_use (any := false) (kk := 1) (nn := 4) (by decide +kernel) ho
theorem wt_12_4 {a : Nat} (ho : OB L0 a 12) : RF L0 a 4 (gR a 4) ∧ AR L0 (gR a 4) 1 4 := ckO_use (any := false) (kk := 1) (nn := 4) (by decide +kernel) ho
theorem wt_12_5 {a : Nat} (ho : OB L0 a 12) : RF L0 a 5 (gR a 5) ∧ AR L0 (gR a 5) 1 20 := ckO_use (any := false) (kk := 1) (nn := 20) (by decide +kernel) ho
theorem wt_12_6 {a : Nat} (ho : OB L0 a 12) : RF L0 a 6 (gR a 6) ∧ AR L0 (gR a 6) 1 1056 := ckO_use (any := false) (kk := 1) (nn := 1056) (by decide +kernel) ho
theorem wt_12_7 {a : Nat} (ho : OB L0 a 12) : RF L0 a 7 (gR a 7) ∧ AR L0 (gR a 7) 1 968 := ckO_use (any := false) (kk := 1) (nn := 968) (by decide +kernel) ho
theorem wt_12_8 {a : Nat} (ho : OB L0 a 12) : RF L0 a 8 (gR a 8) ∧ AR L0 (gR a 8) 1 264 := ckO_use (any := false) (kk := 1) (nn := 264) (by decide +kernel) ho
theorem wt_12_9 {a : Nat} (ho : OB L0 a 12) : RF L0 a 9 (gR a 9) ∧ AR L0 (gR a 9) 1 408 := ckO_use (any := false) (kk := 1) (nn := 408) (by decide +kernel) ho
theorem wt_12_10 {a : Nat} (ho : OB L0 a 12) : RF L0 a 10 (gR a 10) ∧ AR L0 (gR a 10) 1 776 := ckO_use (any := false) (kk := 1) (nn := 776) (by decide +kernel) ho
theorem wt_12_20 {a : Nat} (ho : OB L0 a 12) : RF L0 a 20 (gR a 20) ∧ AR L0 (gR a 20) 1 132 := ckO_use (any := false) (kk := 1) (nn := 132) (by decide +kernel) ho
theorem wt_12_21 {a : Nat} (ho : OB L0 a 12) : RF L0 a 21 (gR a 21) ∧ AR L0 (gR a 21) 1 4 := ckO_use (any := false) (kk := 1) (nn := 4) (by decide +kernel) ho
theorem wt_12_40 {a : Nat} (ho : OB L0 a 12) : RF L0 a 40 (gR a 40) ∧ AR L0 (gR a 40) 1 5 := ckO_use (any := false) (kk := 1) (nn := 5) (by decide +kernel) ho
theorem wt_12_41 {a : Nat} (ho : OB L0 a 12) : RF L0 a 41 (gR a 41) ∧ AR L0 (gR a 41) 1 32 := ckO_use (any := false) (kk := 1) (nn := 32) (by decide +kernel) ho
theorem wt_12_42 {a : Nat} (ho : OB L0 a 12) : RF L0 a 42 (gR a 42) ∧ AR L0 (gR a 42) 1 40 := ckO_use (any := false) (kk := 1) (nn := 40) (by decide +kernel) ho
theorem wt_12_43 {a : Nat} (ho : OB L0 a 12) : RF L0 a 43 (gR a 43) ∧ AR L0 (gR a 43) 1 40 := ckO_use (any := false) (kk := 1) (nn := 40) (by decide +kernel) ho
theorem wt_12_44 {a : Nat} (ho : OB L0 a 12) : RF L0 a 44 (gR a 44) ∧ AR L0 (gR a 44) 1 40 := ckO_use (any := false) (kk := 1) (nn := 40) (by decide +kernel) ho
theorem wt_12_45 {a : Nat} (ho : OB L0 a 12) : RF L0 a 45 (gR a 45) ∧ AR L0 (gR a 45) 1 40 := ckO_use (any := false) (kk := 1) (nn := 40) (by decide +kernel) ho
theorem wt_12_47 {a : Nat} (ho : OB L0 a 12) : RF L0 a 47 (gR a 47) ∧ AR L0 (gR a 47) 2 8 := ckO_use (any := false) (kk := 2) (nn := 8) (by decide +kernel) ho
theorem wt_12_49 {a : Nat} (ho : OB L0 a 12) : RF L0 a 49 (gR a 49) ∧ AR L0 (gR a 49) 2 542 := ckO_use (any := false) (kk := 2) (nn := 542) (by decide +kernel) ho
theorem wt_12_50 {a : Nat} (ho : OB L0 a 12) : RF L0 a 50 (gR a 50) ∧ AR L0 (gR a 50) 2 542 := ckO_use (any := false) (kk := 2) (nn := 542) (by decide +kernel) ho
theorem wt_12_51 {a : Nat} (ho : OB L0 a 12) : RF L0 a 51 (gR a 51) ∧ AR L0 (gR a 51) 2 8 := ckO_use (any := false) (kk := 2) (nn := 8) (by decide +kernel) ho
theorem wt_12_52 {a : Nat} (ho : OB L0 a 12) : RF L0 a 52 (gR a 52) ∧ AR L0 (gR a 52) 1 8 := ckO_use (any := false) (kk := 1) (nn := 8) (by decide +kernel) ho
theorem wt_12_57 {a : Nat} (ho : OB L0 a 12) : RF L0 a 57 (gR a 57) ∧ AR L0 (gR a 57) 2 496 := ckO_use (any := false) (kk := 2) (nn := 496) (by decide +kernel) ho
theorem wt_12_59 {a : Nat} (ho : OB L0 a 12) : RF L0 a 59 (gR a 59) ∧ AR L0 (gR a 59) 1 8 := ckO_use (any := false) (kk := 1) (nn := 8) (by decide +kernel) ho
theorem wt_12_61 {a : Nat} (ho : OB L0 a 12) : RF L0 a 61 (gR a 61) ∧ AR L0 (gR a 61) 1 8 := ckO_use (any := false) (kk := 1) (nn := 8) (by decide +kernel) ho
theorem wt_12_62 {a : Nat} (ho : OB L0 a 12) : RF L0 a 62 (gR a 62) ∧ AR L0 (gR a 62) 1 8 := ckO_use (any := false) (kk := 1) (nn := 8) (by decide +kernel) ho
theorem wt_12_67 {a : Nat} (ho : OB L0 a 12) : RF L0 a 67 (gR a 67) ∧ AR L0 (gR a 67) 4 3 := ckO_use (any := false) (kk := 4) (nn := 3) (by decide +kernel) ho
theorem wa_5 {a n : Nat} (ha : AR L0 a 5 n) {i : Int} (hi : 0 ≤ i ∧ i < (n : Int)) : RF L0 a i.toNat (gR a i.toNat) ∧ OB L0 (gR a i.toNat) 1 := ckA_use (by decide +kernel) ha hi
theorem wa_6 {a n : Nat} (ha : AR L0 a 6 n) {i : Int} (hi : 0 ≤ i ∧ i < (n : Int)) : RF L0 a i.toNat (gR a i.toNat) ∧ OB L0 (gR a i.toNat) 3 := ckA_use (by decide +kernel) ha hi
theorem wa_7 {a n : Nat} (ha : AR L0 a 7 n) {i : Int} (hi : 0 ≤ i ∧ i < (n : Int)) : RF L0 a i.toNat (gR a i.toNat) ∧ OB L0 (gR a i.toNat) 5 := ckA_use (by decide +kernel) ha hi
theorem wa_8 {a n : Nat} (ha : AR L0 a 8 n) {i : Int} (hi : 0 ≤ i ∧ i < (n : Int)) : RF L0 a i.toNat (gR a i.toNat) ∧ OB L0 (gR a i.toNat) 8 := ckA_use (by decide +kernel) ha hi
theorem wa_9 {a n : Nat} (ha : AR L0 a 9 n) {i : Int} (hi : 0 ≤ i ∧ i < (n : Int)) : RF L0 a i.toNat (gR a i.toNat) ∧ OB L0 (gR a i.toNat) 9 := ckA_use (by decide +kernel) ha hi
theorem wl_m1 : wI (-1) = (-1) := by decide +kernel
theorem wl_0 : wI 0 = 0 := by decide +kernel
theorem wl_1 : wI 1 = 1 := by decide +kernel
theorem wl_2 : wI 2 = 2 := by decide +kernel
theorem wl_3 : wI 3 = 3 := by decide +kernel
theorem wl_4 : wI 4 = 4 := by decide +kernel
theorem wl_5 : wI 5 = 5 := by decide +kernel
theorem wl_6 : wI 6 = 6 := by decide +kernel
theorem wl_7 : wI 7 = 7 := by decide +kernel
theorem wl_8 : wI 8 = 8 := by decide +kernel
theorem wl_9 : wI 9 = 9 := by decide +kernel
theorem wl_10 : wI 10 = 10 := by decide +kernel
theorem wl_12 : wI 12 = 12 := by decide +kernel
theorem wl_15 : wI 15 = 15 := by decide +kernel
theorem wl_16 : wI 16 = 16 := by decide +kernel
theorem wl_17 : wI 17 = 17 := by decide +kernel
theorem wl_18 : wI 18 = 18 := by decide +kernel
theorem wl_20 : wI 20 = 20 := by decide +kernel
theorem wl_21 : wI 21 = 21 := by decide +kernel
theorem wl_22 : wI 22 = 22 := by decide +kernel
theorem wl_23 : wI 23 = 23 := by decide +kernel
theorem wl_24 : wI 24 = 24 := by decide +kernel
theorem wl_25 : wI 25 = 25 := by decide +kernel
theorem wl_26 : wI 26 = 26 := by decide +kernel
theorem wl_27 : wI 27 = 27 := by decide +kernel
theorem wl_28 : wI 28 = 28 := by decide +kernel
theorem wl_30 : wI 30 = 30 := by decide +kernel
theorem wl_31 : wI 31 = 31 := by decide +kernel
theorem wl_32 : wI 32 = 32 := by decide +kernel
theorem wl_40 : wI 40 = 40 := by decide +kernel
theorem wl_48 : wI 48 = 48 := by decide +kernel
theorem wl_57 : wI 57 = 57 := by decide +kernel
theorem wl_59 : wI 59 = 59 := by decide +kernel
theorem wl_60 : wI 60 = 60 := by decide +kernel
theorem wl_64 : wI 64 = 64 := by decide +kernel
theorem wl_97 : wI 97 = 97 := by decide +kernel
theorem wl_100 : wI 100 = 100 := by decide +kernel
theorem wl_110 : wI 110 = 110 := by decide +kernel
theorem wl_112 : wI 112 = 112 := by decide +kernel
theorem wl_120 : wI 120 = 120 := by decide +kernel
theorem wl_122 : wI 122 = 122 := by decide +kernel
theorem wl_132 : wI 132 = 132 := by decide +kernel
theorem wl_136 : wI 136 = 136 := by decide +kernel
theorem wl_255 : wI 255 = 255 := by decide +kernel
theorem wl_542 : wI 542 = 542 := by decide +kernel
theorem wl_600 : wI 600 = 600 := by decide +kernel
theorem wj_0 : wJ 0 = 0 := by decide +kernel
theorem wj_26479 : wJ 26479 = 26479 := by decide +kernel
theorem wj_30064 : wJ 30064 = 30064 := by decide +kernel
theorem wj_6383986 : wJ 6383986 = 6383986 := by decide +kernel
theorem wj_6518132 : wJ 6518132 = 6518132 := by decide +kernel
theorem wj_6713189 : wJ 6713189 = 6713189 := by decide +kernel
theorem wj_6842740 : wJ 6842740 = 6842740 := by decide +kernel
theorem wj_1667591276 : wJ 1667591276 = 1667591276 := by decide +kernel
theorem wj_1685026670 : wJ 1685026670 = 1685026670 := by decide +kernel
theorem wj_1717658469 : wJ 1717658469 = 1717658469 := by decide +kernel
theorem wj_1717922924 : wJ 1717922924 = 1717922924 := by decide +kernel
theorem wj_1818846836 : wJ 1818846836 = 1818846836 := by decide +kernel
theorem wj_1835627379 : wJ 1835627379 = 1835627379 := by decide +kernel
theorem wj_1885434484 : wJ 1885434484 = 1885434484 := by decide +kernel
theorem wj_1919512167 : wJ 1919512167 = 1919512167 := by decide +kernel
theorem wj_1935767923 : wJ 1935767923 = 1935767923 := by decide +kernel
theorem wj_1953658213 : wJ 1953658213 = 1953658213 := by decide +kernel
theorem wj_422726039411 : wJ 422726039411 = 422726039411 := by decide +kernel
theorem wj_426953501796 : wJ 426953501796 = 426953501796 := by decide +kernel
theorem wj_439721161573 : wJ 439721161573 = 439721161573 := by decide +kernel
theorem wj_444300622437 : wJ 444300622437 = 444300622437 := by decide +kernel
theorem wj_495874302827 : wJ 495874302827 = 495874302827 := by decide +kernel
theorem wj_500136506472 : wJ 500136506472 = 500136506472 := by decide +kernel
theorem wj_112641580559972 : wJ 112641580559972 = 112641580559972 := by decide +kernel
theorem wj_126931137819237 : wJ 126931137819237 = 126931137819237 := by decide +kernel
theorem wj_126943972911973 : wJ 126943972911973 = 126943972911973 := by decide +kernel
theorem wj_126956639450227 : wJ 126956639450227 = 126956639450227 := by decide +kernel
theorem wj_128047779833188 : wJ 128047779833188 = 128047779833188 := by decide +kernel
theorem wj_27691674476046181 : wJ 27691674476046181 = 27691674476046181 := by decide +kernel
theorem kc_11_151 : Cond.constantLong RX11 151 (eJ (-1)) ∈ lw_good := tb_i 997 (by decide +kernel) (by decide +kernel)
theorem kc_11_310 : Cond.constantLong RX11 310 (eJ 100) ∈ lw_good := tb_i 1347 (by decide +kernel) (by decide +kernel)
theorem kc_0_65 : Cond.constant RX0 65 (eI 1103515245) ∈ lw_good := tb_i 1364 (by decide +kernel) (by decide +kernel)
theorem kc_2_64 : Cond.constantLong RX2 64 (eJ 2) ∈ lw_good := tb_i 1024 (by decide +kernel) (by decide +kernel)
theorem kc_4_52 : Cond.constantLong RX4 52 (eJ (-1)) ∈ lw_good := tb_i 1081 (by decide +kernel) (by decide +kernel)
theorem kc_12_171 : Cond.constantLong RX12 171 (eJ 422726039411) ∈ lw_good := tb_i 1664 (by decide +kernel) (by decide +kernel)
theorem kc_12_173 : Cond.constantLong RX12 173 (eJ 1818846836) ∈ lw_good := tb_i 1665 (by decide +kernel) (by decide +kernel)
theorem kc_12_175 : Cond.constantLong RX12 175 (eJ 126956639450227) ∈ lw_good := tb_i 1666 (by decide +kernel) (by decide +kernel)
theorem kc_12_177 : Cond.constantLong RX12 177 (eJ 27691674476046181) ∈ lw_good := tb_i 1667 (by decide +kernel) (by decide +kernel)
theorem kc_12_179 : Cond.constantLong RX12 179 (eJ 495874302827) ∈ lw_good := tb_i 1668 (by decide +kernel) (by decide +kernel)
theorem kc_12_188 : Cond.constantLong RX12 188 (eJ 1667591276) ∈ lw_good := tb_i 1669 (by decide +kernel) (by decide +kernel)
theorem kc_12_190 : Cond.constantLong RX12 190 (eJ 112641580559972) ∈ lw_good := tb_i 1670 (by decide +kernel) (by decide +kernel)
theorem kc_12_196 : Cond.constantLong RX12 196 (eJ 6713189) ∈ lw_good := tb_i 1671 (by decide +kernel) (by decide +kernel)
theorem kc_12_198 : Cond.constantLong RX12 198 (eJ 1885434484) ∈ lw_good := tb_i 1672 (by decide +kernel) (by decide +kernel)
theorem kc_12_200 : Cond.constantLong RX12 200 (eJ 426953501796) ∈ lw_good := tb_i 1673 (by decide +kernel) (by decide +kernel)
theorem kc_12_202 : Cond.constantLong RX12 202 (eJ 128047779833188) ∈ lw_good := tb_i 1674 (by decide +kernel) (by decide +kernel)
theorem kc_12_204 : Cond.constantLong RX12 204 (eJ 1919512167) ∈ lw_good := tb_i 1675 (by decide +kernel) (by decide +kernel)
theorem kc_12_232 : Cond.constantLong RX12 232 (eJ 26479) ∈ lw_good := tb_i 1732 (by decide +kernel) (by decide +kernel)
theorem kc_12_234 : Cond.constantLong RX12 234 (eJ 1717658469) ∈ lw_good := tb_i 1733 (by decide +kernel) (by decide +kernel)
theorem kc_12_236 : Cond.constantLong RX12 236 (eJ 126943972911973) ∈ lw_good := tb_i 1734 (by decide +kernel) (by decide +kernel)
theorem kc_12_238 : Cond.constantLong RX12 238 (eJ 30064) ∈ lw_good := tb_i 1735 (by decide +kernel) (by decide +kernel)
theorem kc_12_240 : Cond.constantLong RX12 240 (eJ 1685026670) ∈ lw_good := tb_i 1736 (by decide +kernel) (by decide +kernel)
theorem kc_12_242 : Cond.constantLong RX12 242 (eJ 6518132) ∈ lw_good := tb_i 1737 (by decide +kernel) (by decide +kernel)
theorem kc_12_247 : Cond.constantLong RX12 247 (eJ 1935767923) ∈ lw_good := tb_i 1742 (by decide +kernel) (by decide +kernel)
theorem kc_12_249 : Cond.constantLong RX12 249 (eJ 6383986) ∈ lw_good := tb_i 1743 (by decide +kernel) (by decide +kernel)
theorem kc_12_251 : Cond.constantLong RX12 251 (eJ 444300622437) ∈ lw_good := tb_i 1744 (by decide +kernel) (by decide +kernel)
theorem kc_12_253 : Cond.constantLong RX12 253 (eJ 126931137819237) ∈ lw_good := tb_i 1745 (by decide +kernel) (by decide +kernel)
theorem kc_12_255 : Cond.constantLong RX12 255 (eJ 500136506472) ∈ lw_good := tb_i 1746 (by decide +kernel) (by decide +kernel)
theorem kc_12_257 : Cond.constantLong RX12 257 (eJ 1717922924) ∈ lw_good := tb_i 1751 (by decide +kernel) (by decide +kernel)
theorem kc_12_259 : Cond.constantLong RX12 259 (eJ 1953658213) ∈ lw_good := tb_i 1756 (by decide +kernel) (by decide +kernel)
theorem kc_12_261 : Cond.constantLong RX12 261 (eJ 439721161573) ∈ lw_good := tb_i 1757 (by decide +kernel) (by decide +kernel)
theorem kc_12_263 : Cond.constantLong RX12 263 (eJ 6842740) ∈ lw_good := tb_i 1758 (by decide +kernel) (by decide +kernel)
theorem kc_12_265 : Cond.constantLong RX12 265 (eJ 1835627379) ∈ lw_good := tb_i 1759 (by decide +kernel) (by decide +kernel)
theorem kc_12_439 : Cond.constantLong RX12 439 (eJ 2) ∈ lw_good := tb_i 1931 (by decide +kernel) (by decide +kernel)
theorem kc_12_459 : Cond.constantLong RX12 459 (eJ (-1)) ∈ lw_good := tb_i 1922 (by decide +kernel) (by decide +kernel)
theorem kc_12_487 : Cond.constantLong RX12 487 (eJ 10) ∈ lw_good := tb_i 1972 (by decide +kernel) (by decide +kernel)
theorem kc_12_618 : Cond.constantLong RX12 618 (eJ 100) ∈ lw_good := tb_i 2168 (by decide +kernel) (by decide +kernel)
theorem kc_12_623 : Cond.constant RX12 623 (eI 1103515245) ∈ lw_good := tb_i 2181 (by decide +kernel) (by decide +kernel)
theorem sg_4_41 : SG RX4 41 4 := ⟨by decide, Or.inr ⟨"PaperDonkey", tn_i 1075 (by decide +kernel) rfl⟩⟩
theorem sg_7_110 : SG RX7 110 1 := ⟨by decide, Or.inr ⟨"PaperDonkey", tn_i 776 (by decide +kernel) rfl⟩⟩
theorem sg_7_123 : SG RX7 123 0 := ⟨by decide, Or.inr ⟨"PaperDonkey", tn_i 679 (by decide +kernel) rfl⟩⟩
theorem sg_7_147 : SG RX7 147 2 := ⟨by decide, Or.inr ⟨"PaperDonkey", tn_i 782 (by decide +kernel) rfl⟩⟩
theorem sg_7_150 : SG RX7 150 3 := ⟨by decide, Or.inr ⟨"PaperDonkey", tn_i 784 (by decide +kernel) rfl⟩⟩
theorem ml_11_371 : ML RX11 371 Lib.Math.min.name Lib.Math.min.code 2 .int := ⟨tb_i 943 (by decide +kernel) (by decide +kernel), tb_i 656 (by decide +kernel) (by decide +kernel), tb_i 143 (by decide +kernel) (by decide +kernel), tb_i 657 (by decide +kernel) (by decide +kernel)⟩
theorem ml_11_376 : ML RX11 376 Lib.Math.abs.name Lib.Math.abs.code 1 .int := ⟨tb_i 1181 (by decide +kernel) (by decide +kernel), tb_i 938 (by decide +kernel) (by decide +kernel), tb_i 143 (by decide +kernel) (by decide +kernel), tb_i 939 (by decide +kernel) (by decide +kernel)⟩
theorem ml_11_379 : ML RX11 379 Lib.Math.max.name Lib.Math.max.code 2 .int := ⟨tb_i 1182 (by decide +kernel) (by decide +kernel), tb_i 284 (by decide +kernel) (by decide +kernel), tb_i 143 (by decide +kernel) (by decide +kernel), tb_i 285 (by decide +kernel) (by decide +kernel)⟩
theorem ml_0_81 : ML RX0 81 Lib.Math.max.name Lib.Math.max.code 2 .int := ⟨tb_i 1365 (by decide +kernel) (by decide +kernel), tb_i 284 (by decide +kernel) (by decide +kernel), tb_i 143 (by decide +kernel) (by decide +kernel), tb_i 285 (by decide +kernel) (by decide +kernel)⟩
theorem ml_1_32 : MA RX1 32 := ⟨tb_i 852 (by decide +kernel) (by decide +kernel), tb_i 841 (by decide +kernel) (by decide +kernel), tb_i 840 (by decide +kernel) (by decide +kernel), tb_i 157 (by decide +kernel) (by decide +kernel)⟩
theorem ml_3_38 : MA RX3 38 := ⟨tb_i 846 (by decide +kernel) (by decide +kernel), tb_i 841 (by decide +kernel) (by decide +kernel), tb_i 840 (by decide +kernel) (by decide +kernel), tb_i 157 (by decide +kernel) (by decide +kernel)⟩
theorem ml_4_61 : ML RX4 61 Lib.Math.min.name Lib.Math.min.code 2 .int := ⟨tb_i 1063 (by decide +kernel) (by decide +kernel), tb_i 656 (by decide +kernel) (by decide +kernel), tb_i 143 (by decide +kernel) (by decide +kernel), tb_i 657 (by decide +kernel) (by decide +kernel)⟩
theorem ml_4_106 : ML RX4 106 Lib.MathLoose.max_long.x Lib.MathLoose.max_long.code 4 .long := ⟨tb_i 1117 (by decide +kernel) (by decide +kernel), tb_i 1118 (by decide +kernel) (by decide +kernel), tb_i 143 (by decide +kernel) (by decide +kernel), tb_i 1119 (by decide +kernel) (by decide +kernel)⟩
theorem ml_4_110 : ML RX4 110 Lib.MathLoose.min_long.x Lib.MathLoose.min_long.code 4 .long := ⟨tb_i 1148 (by decide +kernel) (by decide +kernel), tb_i 1149 (by decide +kernel) (by decide +kernel), tb_i 143 (by decide +kernel) (by decide +kernel), tb_i 1150 (by decide +kernel) (by decide +kernel)⟩
theorem ml_5_86 : MA RX5 86 := ⟨tb_i 839 (by decide +kernel) (by decide +kernel), tb_i 841 (by decide +kernel) (by decide +kernel), tb_i 840 (by decide +kernel) (by decide +kernel), tb_i 157 (by decide +kernel) (by decide +kernel)⟩
theorem ml_6_83 : MA RX6 83 := ⟨tb_i 915 (by decide +kernel) (by decide +kernel), tb_i 841 (by decide +kernel) (by decide +kernel), tb_i 840 (by decide +kernel) (by decide +kernel), tb_i 157 (by decide +kernel) (by decide +kernel)⟩
theorem ml_6_134 : ML RX6 134 Lib.Math.abs.name Lib.Math.abs.code 1 .int := ⟨tb_i 937 (by decide +kernel) (by decide +kernel), tb_i 938 (by decide +kernel) (by decide +kernel), tb_i 143 (by decide +kernel) (by decide +kernel), tb_i 939 (by decide +kernel) (by decide +kernel)⟩
theorem ml_6_144 : ML RX6 144 Lib.Math.min.name Lib.Math.min.code 2 .int := ⟨tb_i 948 (by decide +kernel) (by decide +kernel), tb_i 656 (by decide +kernel) (by decide +kernel), tb_i 143 (by decide +kernel) (by decide +kernel), tb_i 657 (by decide +kernel) (by decide +kernel)⟩
theorem ml_7_211 : ML RX7 211 Lib.Math.min.name Lib.Math.min.code 2 .int := ⟨tb_i 655 (by decide +kernel) (by decide +kernel), tb_i 656 (by decide +kernel) (by decide +kernel), tb_i 143 (by decide +kernel) (by decide +kernel), tb_i 657 (by decide +kernel) (by decide +kernel)⟩
theorem ml_9_59 : MA RX9 59 := ⟨tb_i 1390 (by decide +kernel) (by decide +kernel), tb_i 841 (by decide +kernel) (by decide +kernel), tb_i 840 (by decide +kernel) (by decide +kernel), tb_i 157 (by decide +kernel) (by decide +kernel)⟩
theorem ml_10_101 : ML RX10 101 Lib.Math.max.name Lib.Math.max.code 2 .int := ⟨tb_i 1296 (by decide +kernel) (by decide +kernel), tb_i 284 (by decide +kernel) (by decide +kernel), tb_i 143 (by decide +kernel) (by decide +kernel), tb_i 285 (by decide +kernel) (by decide +kernel)⟩
theorem ml_10_106 : ML RX10 106 Lib.Math.min.name Lib.Math.min.code 2 .int := ⟨tb_i 1297 (by decide +kernel) (by decide +kernel), tb_i 656 (by decide +kernel) (by decide +kernel), tb_i 143 (by decide +kernel) (by decide +kernel), tb_i 657 (by decide +kernel) (by decide +kernel)⟩
