/-! what a field's, a constant's, a call's place in a class file leads to -/
theorem cl_0 : vwCl[0]? = some (RX0, TX0, 5) := rfl
theorem in_X0 : ∀ w ∈ u_ws RX0 TX0 5, w ∈ BW := by
  have h : (u_ws RX0 TX0 5).all (fun w => decide (w ∈ lw_tbl) && goodWord w) = true := by decide +kernel
  intro w hw
  have h1 := List.all_eq_true.mp h w hw
  simp only [Bool.and_eq_true, decide_eq_true_eq] at h1
  exact BW_in h1.1 h1.2
theorem cl_1 : vwCl[1]? = some (RX1, TX1, 15) := rfl
theorem in_X1 : ∀ w ∈ u_ws RX1 TX1 15, w ∈ BW := by
  have h : (u_ws RX1 TX1 15).all (fun w => decide (w ∈ lw_tbl) && goodWord w) = true := by decide +kernel
  intro w hw
  have h1 := List.all_eq_true.mp h w hw
  simp only [Bool.and_eq_true, decide_eq_true_eq] at h1
  exact BW_in h1.1 h1.2
theorem cl_2 : vwCl[2]? = some (RX2, TX2, 7) := rfl
theorem in_X2 : ∀ w ∈ u_ws RX2 TX2 7, w ∈ BW := by
  have h : (u_ws RX2 TX2 7).all (fun w => decide (w ∈ lw_tbl) && goodWord w) = true := by decide +kernel
  intro w hw
  have h1 := List.all_eq_true.mp h w hw
  simp only [Bool.and_eq_true, decide_eq_true_eq] at h1
  exact BW_in h1.1 h1.2
theorem cl_3 : vwCl[3]? = some (RX3, TX3, 7) := rfl
theorem in_X3 : ∀ w ∈ u_ws RX3 TX3 7, w ∈ BW := by
  have h : (u_ws RX3 TX3 7).all (fun w => decide (w ∈ lw_tbl) && goodWord w) = true := by decide +kernel
  intro w hw
  have h1 := List.all_eq_true.mp h w hw
  simp only [Bool.and_eq_true, decide_eq_true_eq] at h1
  exact BW_in h1.1 h1.2
theorem cl_4 : vwCl[4]? = some (RX4, TX4, 8) := rfl
theorem in_X4 : ∀ w ∈ u_ws RX4 TX4 8, w ∈ BW := by
  have h : (u_ws RX4 TX4 8).all (fun w => decide (w ∈ lw_tbl) && goodWord w) = true := by decide +kernel
  intro w hw
  have h1 := List.all_eq_true.mp h w hw
  simp only [Bool.and_eq_true, decide_eq_true_eq] at h1
  exact BW_in h1.1 h1.2
theorem cl_5 : vwCl[5]? = some (RX5, TX5, 7) := rfl
theorem in_X5 : ∀ w ∈ u_ws RX5 TX5 7, w ∈ BW := by
  have h : (u_ws RX5 TX5 7).all (fun w => decide (w ∈ lw_tbl) && goodWord w) = true := by decide +kernel
  intro w hw
  have h1 := List.all_eq_true.mp h w hw
  simp only [Bool.and_eq_true, decide_eq_true_eq] at h1
  exact BW_in h1.1 h1.2
theorem cl_6 : vwCl[6]? = some (RX6, TX6, 8) := rfl
theorem in_X6 : ∀ w ∈ u_ws RX6 TX6 8, w ∈ BW := by
  have h : (u_ws RX6 TX6 8).all (fun w => decide (w ∈ lw_tbl) && goodWord w) = true := by decide +kernel
  intro w hw
  have h1 := List.all_eq_true.mp h w hw
  simp only [Bool.and_eq_true, decide_eq_true_eq] at h1
  exact BW_in h1.1 h1.2
theorem cl_7 : vwCl[7]? = some (RX7, TX7, 9) := rfl
theorem in_X7 : ∀ w ∈ u_ws RX7 TX7 9, w ∈ BW := by
  have h : (u_ws RX7 TX7 9).all (fun w => decide (w ∈ lw_tbl) && goodWord w) = true := by decide +kernel
  intro w hw
  have h1 := List.all_eq_true.mp h w hw
  simp only [Bool.and_eq_true, decide_eq_true_eq] at h1
  exact BW_in h1.1 h1.2
theorem cl_8 : vwCl[8]? = some (RX8, TX8, 20) := rfl
theorem in_X8 : ∀ w ∈ u_ws RX8 TX8 20, w ∈ BW := by
  have h : (u_ws RX8 TX8 20).all (fun w => decide (w ∈ lw_tbl) && goodWord w) = true := by decide +kernel
  intro w hw
  have h1 := List.all_eq_true.mp h w hw
  simp only [Bool.and_eq_true, decide_eq_true_eq] at h1
  exact BW_in h1.1 h1.2
theorem cl_9 : vwCl[9]? = some (RX9, TX9, 6) := rfl
theorem in_X9 : ∀ w ∈ u_ws RX9 TX9 6, w ∈ BW := by
  have h : (u_ws RX9 TX9 6).all (fun w => decide (w ∈ lw_tbl) && goodWord w) = true := by decide +kernel
  intro w hw
  have h1 := List.all_eq_true.mp h w hw
  simp only [Bool.and_eq_true, decide_eq_true_eq] at h1
  exact BW_in h1.1 h1.2
theorem cl_10 : vwCl[10]? = some (RX10, TX10, 19) := rfl
theorem in_X10 : ∀ w ∈ u_ws RX10 TX10 19, w ∈ BW := by
  have h : (u_ws RX10 TX10 19).all (fun w => decide (w ∈ lw_tbl) && goodWord w) = true := by decide +kernel
  intro w hw
  have h1 := List.all_eq_true.mp h w hw
  simp only [Bool.and_eq_true, decide_eq_true_eq] at h1
  exact BW_in h1.1 h1.2
theorem cl_11 : vwCl[11]? = some (RX11, TX11, 61) := rfl
theorem in_X11 : ∀ w ∈ u_ws RX11 TX11 61, w ∈ BW := by
  have h : (u_ws RX11 TX11 61).all (fun w => decide (w ∈ lw_tbl) && goodWord w) = true := by decide +kernel
  intro w hw
  have h1 := List.all_eq_true.mp h w hw
  simp only [Bool.and_eq_true, decide_eq_true_eq] at h1
  exact BW_in h1.1 h1.2
theorem fg_X0_11 : FldG RX0 11 0 1 := ⟨RX0, TX0, 5, rfl, by decide, rfl, in_X0, bw_484⟩
theorem fg_X0_15 : FldG RX0 15 0 2 := ⟨RX0, TX0, 5, rfl, by decide, rfl, in_X0, bw_485⟩
theorem fg_X0_18 : FldG RX0 18 0 3 := ⟨RX0, TX0, 5, rfl, by decide, rfl, in_X0, bw_486⟩
theorem fg_X0_21 : FldG RX0 21 0 4 := ⟨RX0, TX0, 5, rfl, by decide, rfl, in_X0, bw_487⟩
theorem fg_X0_30 : FldG RX0 30 0 0 := ⟨RX0, TX0, 5, rfl, by decide, rfl, in_X0, bw_482⟩
theorem fg_X10_10 : FldG RX10 10 10 0 := ⟨RX10, TX10, 19, rfl, by decide, rfl, in_X10, bw_556⟩
theorem fg_X10_101 : FldG RX10 101 10 15 := ⟨RX10, TX10, 19, rfl, by decide, rfl, in_X10, bw_571⟩
theorem fg_X10_109 : FldG RX10 109 10 16 := ⟨RX10, TX10, 19, rfl, by decide, rfl, in_X10, bw_572⟩
theorem fg_X10_113 : FldG RX10 113 10 13 := ⟨RX10, TX10, 19, rfl, by decide, rfl, in_X10, bw_569⟩
theorem fg_X10_132 : FldG RX10 132 1 6 := ⟨RX1, TX1, 15, rfl, by decide, rfl, in_X1, bw_158⟩
theorem fg_X10_135 : FldG RX10 135 1 7 := ⟨RX1, TX1, 15, rfl, by decide, rfl, in_X1, bw_160⟩
theorem fg_X10_142 : FldG RX10 142 1 8 := ⟨RX1, TX1, 15, rfl, by decide, rfl, in_X1, bw_163⟩
theorem fg_X10_145 : FldG RX10 145 1 9 := ⟨RX1, TX1, 15, rfl, by decide, rfl, in_X1, bw_166⟩
theorem fg_X10_151 : FldG RX10 151 1 13 := ⟨RX1, TX1, 15, rfl, by decide, rfl, in_X1, bw_179⟩
theorem fg_X10_154 : FldG RX10 154 1 14 := ⟨RX1, TX1, 15, rfl, by decide, rfl, in_X1, bw_182⟩
theorem fg_X10_164 : FldG RX10 164 9 0 := ⟨RX9, TX9, 6, rfl, by decide, rfl, in_X9, bw_253⟩
theorem fg_X10_171 : FldG RX10 171 6 0 := ⟨RX6, TX6, 8, rfl, by decide, rfl, in_X6, bw_284⟩
theorem fg_X10_174 : FldG RX10 174 7 0 := ⟨RX7, TX7, 9, rfl, by decide, rfl, in_X7, bw_510⟩
theorem fg_X10_177 : FldG RX10 177 6 1 := ⟨RX6, TX6, 8, rfl, by decide, rfl, in_X6, bw_286⟩
theorem fg_X10_19 : FldG RX10 19 10 1 := ⟨RX10, TX10, 19, rfl, by decide, rfl, in_X10, bw_557⟩
theorem fg_X10_194 : FldG RX10 194 1 0 := ⟨RX1, TX1, 15, rfl, by decide, rfl, in_X1, bw_142⟩
theorem fg_X10_216 : FldG RX10 216 2 4 := ⟨RX2, TX2, 7, rfl, by decide, rfl, in_X2, bw_424⟩
theorem fg_X10_219 : FldG RX10 219 2 3 := ⟨RX2, TX2, 7, rfl, by decide, rfl, in_X2, bw_422⟩
theorem fg_X10_222 : FldG RX10 222 2 5 := ⟨RX2, TX2, 7, rfl, by decide, rfl, in_X2, bw_426⟩
theorem fg_X10_225 : FldG RX10 225 2 6 := ⟨RX2, TX2, 7, rfl, by decide, rfl, in_X2, bw_428⟩
theorem fg_X10_252 : FldG RX10 252 8 17 := ⟨RX8, TX8, 20, rfl, by decide, rfl, in_X8, bw_366⟩
theorem fg_X10_255 : FldG RX10 255 8 18 := ⟨RX8, TX8, 20, rfl, by decide, rfl, in_X8, bw_368⟩
theorem fg_X10_26 : FldG RX10 26 10 2 := ⟨RX10, TX10, 19, rfl, by decide, rfl, in_X10, bw_558⟩
theorem fg_X10_297 : FldG RX10 297 3 0 := ⟨RX3, TX3, 7, rfl, by decide, rfl, in_X3, bw_451⟩
theorem fg_X10_313 : FldG RX10 313 3 6 := ⟨RX3, TX3, 7, rfl, by decide, rfl, in_X3, bw_459⟩
theorem fg_X10_316 : FldG RX10 316 3 5 := ⟨RX3, TX3, 7, rfl, by decide, rfl, in_X3, bw_457⟩
theorem fg_X10_319 : FldG RX10 319 1 11 := ⟨RX1, TX1, 15, rfl, by decide, rfl, in_X1, bw_173⟩
theorem fg_X10_322 : FldG RX10 322 1 12 := ⟨RX1, TX1, 15, rfl, by decide, rfl, in_X1, bw_175⟩
theorem fg_X10_331 : FldG RX10 331 10 14 := ⟨RX10, TX10, 19, rfl, by decide, rfl, in_X10, bw_570⟩
theorem fg_X10_334 : FldG RX10 334 1 10 := ⟨RX1, TX1, 15, rfl, by decide, rfl, in_X1, bw_171⟩
theorem fg_X10_35 : FldG RX10 35 10 3 := ⟨RX10, TX10, 19, rfl, by decide, rfl, in_X10, bw_559⟩
theorem fg_X10_355 : FldG RX10 355 1 5 := ⟨RX1, TX1, 15, rfl, by decide, rfl, in_X1, bw_156⟩
theorem fg_X10_366 : FldG RX10 366 5 0 := ⟨RX5, TX5, 7, rfl, by decide, rfl, in_X5, bw_224⟩
theorem fg_X10_367 : FldG RX10 367 0 0 := ⟨RX0, TX0, 5, rfl, by decide, rfl, in_X0, bw_483⟩
theorem fg_X10_371 : FldG RX10 371 10 17 := ⟨RX10, TX10, 19, rfl, by decide, rfl, in_X10, bw_573⟩
theorem fg_X10_377 : FldG RX10 377 10 18 := ⟨RX10, TX10, 19, rfl, by decide, rfl, in_X10, bw_574⟩
theorem fg_X10_383 : FldG RX10 383 8 19 := ⟨RX8, TX8, 20, rfl, by decide, rfl, in_X8, bw_370⟩
theorem fg_X10_44 : FldG RX10 44 10 4 := ⟨RX10, TX10, 19, rfl, by decide, rfl, in_X10, bw_560⟩
theorem fg_X10_53 : FldG RX10 53 10 5 := ⟨RX10, TX10, 19, rfl, by decide, rfl, in_X10, bw_561⟩
theorem fg_X10_60 : FldG RX10 60 10 6 := ⟨RX10, TX10, 19, rfl, by decide, rfl, in_X10, bw_562⟩
theorem fg_X10_67 : FldG RX10 67 10 7 := ⟨RX10, TX10, 19, rfl, by decide, rfl, in_X10, bw_563⟩
theorem fg_X10_74 : FldG RX10 74 10 8 := ⟨RX10, TX10, 19, rfl, by decide, rfl, in_X10, bw_564⟩
theorem fg_X10_78 : FldG RX10 78 10 9 := ⟨RX10, TX10, 19, rfl, by decide, rfl, in_X10, bw_565⟩
theorem fg_X10_88 : FldG RX10 88 10 10 := ⟨RX10, TX10, 19, rfl, by decide, rfl, in_X10, bw_566⟩
theorem fg_X10_94 : FldG RX10 94 10 11 := ⟨RX10, TX10, 19, rfl, by decide, rfl, in_X10, bw_567⟩
theorem fg_X10_98 : FldG RX10 98 10 12 := ⟨RX10, TX10, 19, rfl, by decide, rfl, in_X10, bw_568⟩
theorem fg_X11_100 : FldG RX11 100 11 41 := ⟨RX11, TX11, 61, rfl, by decide, rfl, in_X11, bw_1417⟩
theorem fg_X11_103 : FldG RX11 103 11 42 := ⟨RX11, TX11, 61, rfl, by decide, rfl, in_X11, bw_1418⟩
theorem fg_X11_106 : FldG RX11 106 11 47 := ⟨RX11, TX11, 61, rfl, by decide, rfl, in_X11, bw_1423⟩
theorem fg_X11_109 : FldG RX11 109 11 48 := ⟨RX11, TX11, 61, rfl, by decide, rfl, in_X11, bw_1424⟩
theorem fg_X11_112 : FldG RX11 112 11 49 := ⟨RX11, TX11, 61, rfl, by decide, rfl, in_X11, bw_1425⟩
theorem fg_X11_115 : FldG RX11 115 11 51 := ⟨RX11, TX11, 61, rfl, by decide, rfl, in_X11, bw_1427⟩
theorem fg_X11_118 : FldG RX11 118 11 52 := ⟨RX11, TX11, 61, rfl, by decide, rfl, in_X11, bw_1428⟩
theorem fg_X11_121 : FldG RX11 121 11 53 := ⟨RX11, TX11, 61, rfl, by decide, rfl, in_X11, bw_1429⟩
theorem fg_X11_124 : FldG RX11 124 11 54 := ⟨RX11, TX11, 61, rfl, by decide, rfl, in_X11, bw_1430⟩
theorem fg_X11_127 : FldG RX11 127 11 57 := ⟨RX11, TX11, 61, rfl, by decide, rfl, in_X11, bw_1433⟩
theorem fg_X11_13 : FldG RX11 13 11 3 := ⟨RX11, TX11, 61, rfl, by decide, rfl, in_X11, bw_1379⟩
theorem fg_X11_130 : FldG RX11 130 11 58 := ⟨RX11, TX11, 61, rfl, by decide, rfl, in_X11, bw_1434⟩
theorem fg_X11_133 : FldG RX11 133 11 59 := ⟨RX11, TX11, 61, rfl, by decide, rfl, in_X11, bw_1435⟩
theorem fg_X11_136 : FldG RX11 136 11 60 := ⟨RX11, TX11, 61, rfl, by decide, rfl, in_X11, bw_1436⟩
theorem fg_X11_139 : FldG RX11 139 11 0 := ⟨RX11, TX11, 61, rfl, by decide, rfl, in_X11, bw_1376⟩
theorem fg_X11_142 : FldG RX11 142 11 1 := ⟨RX11, TX11, 61, rfl, by decide, rfl, in_X11, bw_1377⟩
theorem fg_X11_153 : FldG RX11 153 11 14 := ⟨RX11, TX11, 61, rfl, by decide, rfl, in_X11, bw_1390⟩
theorem fg_X11_156 : FldG RX11 156 11 43 := ⟨RX11, TX11, 61, rfl, by decide, rfl, in_X11, bw_1419⟩
theorem fg_X11_16 : FldG RX11 16 11 4 := ⟨RX11, TX11, 61, rfl, by decide, rfl, in_X11, bw_1380⟩
theorem fg_X11_168 : FldG RX11 168 11 15 := ⟨RX11, TX11, 61, rfl, by decide, rfl, in_X11, bw_1391⟩
theorem fg_X11_19 : FldG RX11 19 11 5 := ⟨RX11, TX11, 61, rfl, by decide, rfl, in_X11, bw_1381⟩
theorem fg_X11_210 : FldG RX11 210 11 32 := ⟨RX11, TX11, 61, rfl, by decide, rfl, in_X11, bw_1408⟩
theorem fg_X11_213 : FldG RX11 213 11 36 := ⟨RX11, TX11, 61, rfl, by decide, rfl, in_X11, bw_1412⟩
theorem fg_X11_216 : FldG RX11 216 11 35 := ⟨RX11, TX11, 61, rfl, by decide, rfl, in_X11, bw_1411⟩
theorem fg_X11_22 : FldG RX11 22 11 6 := ⟨RX11, TX11, 61, rfl, by decide, rfl, in_X11, bw_1382⟩
theorem fg_X11_223 : FldG RX11 223 11 38 := ⟨RX11, TX11, 61, rfl, by decide, rfl, in_X11, bw_1414⟩
theorem fg_X11_232 : FldG RX11 232 11 37 := ⟨RX11, TX11, 61, rfl, by decide, rfl, in_X11, bw_1413⟩
theorem fg_X11_245 : FldG RX11 245 11 33 := ⟨RX11, TX11, 61, rfl, by decide, rfl, in_X11, bw_1409⟩
theorem fg_X11_25 : FldG RX11 25 11 7 := ⟨RX11, TX11, 61, rfl, by decide, rfl, in_X11, bw_1383⟩
theorem fg_X11_28 : FldG RX11 28 11 8 := ⟨RX11, TX11, 61, rfl, by decide, rfl, in_X11, bw_1384⟩
theorem fg_X11_283 : FldG RX11 283 11 22 := ⟨RX11, TX11, 61, rfl, by decide, rfl, in_X11, bw_1398⟩
theorem fg_X11_307 : FldG RX11 307 11 21 := ⟨RX11, TX11, 61, rfl, by decide, rfl, in_X11, bw_1397⟩
theorem fg_X11_31 : FldG RX11 31 11 9 := ⟨RX11, TX11, 61, rfl, by decide, rfl, in_X11, bw_1385⟩
theorem fg_X11_346 : FldG RX11 346 11 44 := ⟨RX11, TX11, 61, rfl, by decide, rfl, in_X11, bw_1420⟩
theorem fg_X11_349 : FldG RX11 349 11 45 := ⟨RX11, TX11, 61, rfl, by decide, rfl, in_X11, bw_1421⟩
theorem fg_X11_35 : FldG RX11 35 11 10 := ⟨RX11, TX11, 61, rfl, by decide, rfl, in_X11, bw_1386⟩
theorem fg_X11_38 : FldG RX11 38 11 11 := ⟨RX11, TX11, 61, rfl, by decide, rfl, in_X11, bw_1387⟩
theorem fg_X11_387 : FldG RX11 387 11 46 := ⟨RX11, TX11, 61, rfl, by decide, rfl, in_X11, bw_1422⟩
theorem fg_X11_396 : FldG RX11 396 11 50 := ⟨RX11, TX11, 61, rfl, by decide, rfl, in_X11, bw_1426⟩
theorem fg_X11_405 : FldG RX11 405 11 55 := ⟨RX11, TX11, 61, rfl, by decide, rfl, in_X11, bw_1431⟩
theorem fg_X11_409 : FldG RX11 409 11 56 := ⟨RX11, TX11, 61, rfl, by decide, rfl, in_X11, bw_1432⟩
theorem fg_X11_41 : FldG RX11 41 11 12 := ⟨RX11, TX11, 61, rfl, by decide, rfl, in_X11, bw_1388⟩
theorem fg_X11_45 : FldG RX11 45 11 13 := ⟨RX11, TX11, 61, rfl, by decide, rfl, in_X11, bw_1389⟩
theorem fg_X11_48 : FldG RX11 48 11 16 := ⟨RX11, TX11, 61, rfl, by decide, rfl, in_X11, bw_1392⟩
theorem fg_X11_51 : FldG RX11 51 11 17 := ⟨RX11, TX11, 61, rfl, by decide, rfl, in_X11, bw_1393⟩
theorem fg_X11_54 : FldG RX11 54 11 18 := ⟨RX11, TX11, 61, rfl, by decide, rfl, in_X11, bw_1394⟩
theorem fg_X11_57 : FldG RX11 57 11 19 := ⟨RX11, TX11, 61, rfl, by decide, rfl, in_X11, bw_1395⟩
theorem fg_X11_60 : FldG RX11 60 11 20 := ⟨RX11, TX11, 61, rfl, by decide, rfl, in_X11, bw_1396⟩
theorem fg_X11_63 : FldG RX11 63 11 23 := ⟨RX11, TX11, 61, rfl, by decide, rfl, in_X11, bw_1399⟩
theorem fg_X11_66 : FldG RX11 66 11 24 := ⟨RX11, TX11, 61, rfl, by decide, rfl, in_X11, bw_1400⟩
theorem fg_X11_69 : FldG RX11 69 11 25 := ⟨RX11, TX11, 61, rfl, by decide, rfl, in_X11, bw_1401⟩
theorem fg_X11_7 : FldG RX11 7 11 2 := ⟨RX11, TX11, 61, rfl, by decide, rfl, in_X11, bw_1378⟩
theorem fg_X11_72 : FldG RX11 72 11 26 := ⟨RX11, TX11, 61, rfl, by decide, rfl, in_X11, bw_1402⟩
theorem fg_X11_75 : FldG RX11 75 11 27 := ⟨RX11, TX11, 61, rfl, by decide, rfl, in_X11, bw_1403⟩
theorem fg_X11_78 : FldG RX11 78 11 28 := ⟨RX11, TX11, 61, rfl, by decide, rfl, in_X11, bw_1404⟩
theorem fg_X11_81 : FldG RX11 81 11 29 := ⟨RX11, TX11, 61, rfl, by decide, rfl, in_X11, bw_1405⟩
theorem fg_X11_84 : FldG RX11 84 11 30 := ⟨RX11, TX11, 61, rfl, by decide, rfl, in_X11, bw_1406⟩
theorem fg_X11_87 : FldG RX11 87 11 31 := ⟨RX11, TX11, 61, rfl, by decide, rfl, in_X11, bw_1407⟩
theorem fg_X11_91 : FldG RX11 91 11 34 := ⟨RX11, TX11, 61, rfl, by decide, rfl, in_X11, bw_1410⟩
theorem fg_X11_94 : FldG RX11 94 11 39 := ⟨RX11, TX11, 61, rfl, by decide, rfl, in_X11, bw_1415⟩
theorem fg_X11_97 : FldG RX11 97 11 40 := ⟨RX11, TX11, 61, rfl, by decide, rfl, in_X11, bw_1416⟩
theorem fg_X1_15 : FldG RX1 15 1 2 := ⟨RX1, TX1, 15, rfl, by decide, rfl, in_X1, bw_146⟩
theorem fg_X1_18 : FldG RX1 18 1 3 := ⟨RX1, TX1, 15, rfl, by decide, rfl, in_X1, bw_149⟩
theorem fg_X1_21 : FldG RX1 21 1 4 := ⟨RX1, TX1, 15, rfl, by decide, rfl, in_X1, bw_152⟩
theorem fg_X1_27 : FldG RX1 27 1 6 := ⟨RX1, TX1, 15, rfl, by decide, rfl, in_X1, bw_157⟩
theorem fg_X1_39 : FldG RX1 39 1 10 := ⟨RX1, TX1, 15, rfl, by decide, rfl, in_X1, bw_169⟩
theorem fg_X1_42 : FldG RX1 42 1 11 := ⟨RX1, TX1, 15, rfl, by decide, rfl, in_X1, bw_172⟩
theorem fg_X1_45 : FldG RX1 45 1 12 := ⟨RX1, TX1, 15, rfl, by decide, rfl, in_X1, bw_174⟩
theorem fg_X1_61 : FldG RX1 61 1 0 := ⟨RX1, TX1, 15, rfl, by decide, rfl, in_X1, bw_139⟩
theorem fg_X1_9 : FldG RX1 9 1 1 := ⟨RX1, TX1, 15, rfl, by decide, rfl, in_X1, bw_143⟩
theorem fg_X2_15 : FldG RX2 15 2 3 := ⟨RX2, TX2, 7, rfl, by decide, rfl, in_X2, bw_421⟩
theorem fg_X2_18 : FldG RX2 18 2 0 := ⟨RX2, TX2, 7, rfl, by decide, rfl, in_X2, bw_418⟩
theorem fg_X2_22 : FldG RX2 22 2 1 := ⟨RX2, TX2, 7, rfl, by decide, rfl, in_X2, bw_419⟩
theorem fg_X2_32 : FldG RX2 32 1 0 := ⟨RX1, TX1, 15, rfl, by decide, rfl, in_X1, bw_140⟩
theorem fg_X2_48 : FldG RX2 48 2 5 := ⟨RX2, TX2, 7, rfl, by decide, rfl, in_X2, bw_425⟩
theorem fg_X2_54 : FldG RX2 54 2 6 := ⟨RX2, TX2, 7, rfl, by decide, rfl, in_X2, bw_427⟩
theorem fg_X2_57 : FldG RX2 57 2 4 := ⟨RX2, TX2, 7, rfl, by decide, rfl, in_X2, bw_423⟩
theorem fg_X2_60 : FldG RX2 60 1 13 := ⟨RX1, TX1, 15, rfl, by decide, rfl, in_X1, bw_177⟩
theorem fg_X2_9 : FldG RX2 9 2 2 := ⟨RX2, TX2, 7, rfl, by decide, rfl, in_X2, bw_420⟩
theorem fg_X3_11 : FldG RX3 11 3 1 := ⟨RX3, TX3, 7, rfl, by decide, rfl, in_X3, bw_452⟩
theorem fg_X3_15 : FldG RX3 15 3 2 := ⟨RX3, TX3, 7, rfl, by decide, rfl, in_X3, bw_453⟩
theorem fg_X3_18 : FldG RX3 18 3 3 := ⟨RX3, TX3, 7, rfl, by decide, rfl, in_X3, bw_454⟩
theorem fg_X3_21 : FldG RX3 21 3 4 := ⟨RX3, TX3, 7, rfl, by decide, rfl, in_X3, bw_455⟩
theorem fg_X3_24 : FldG RX3 24 3 5 := ⟨RX3, TX3, 7, rfl, by decide, rfl, in_X3, bw_456⟩
theorem fg_X3_27 : FldG RX3 27 3 0 := ⟨RX3, TX3, 7, rfl, by decide, rfl, in_X3, bw_450⟩
theorem fg_X3_41 : FldG RX3 41 3 6 := ⟨RX3, TX3, 7, rfl, by decide, rfl, in_X3, bw_458⟩
theorem fg_X4_101 : FldG RX4 101 7 5 := ⟨RX7, TX7, 9, rfl, by decide, rfl, in_X7, bw_525⟩
theorem fg_X4_105 : FldG RX4 105 7 6 := ⟨RX7, TX7, 9, rfl, by decide, rfl, in_X7, bw_528⟩
theorem fg_X4_108 : FldG RX4 108 7 8 := ⟨RX7, TX7, 9, rfl, by decide, rfl, in_X7, bw_534⟩
theorem fg_X4_11 : FldG RX4 11 4 4 := ⟨RX4, TX4, 8, rfl, by decide, rfl, in_X4, bw_321⟩
theorem fg_X4_111 : FldG RX4 111 1 3 := ⟨RX1, TX1, 15, rfl, by decide, rfl, in_X1, bw_150⟩
theorem fg_X4_114 : FldG RX4 114 7 7 := ⟨RX7, TX7, 9, rfl, by decide, rfl, in_X7, bw_531⟩
theorem fg_X4_117 : FldG RX4 117 7 1 := ⟨RX7, TX7, 9, rfl, by decide, rfl, in_X7, bw_513⟩
theorem fg_X4_120 : FldG RX4 120 7 3 := ⟨RX7, TX7, 9, rfl, by decide, rfl, in_X7, bw_519⟩
theorem fg_X4_131 : FldG RX4 131 7 2 := ⟨RX7, TX7, 9, rfl, by decide, rfl, in_X7, bw_517⟩
theorem fg_X4_140 : FldG RX4 140 1 10 := ⟨RX1, TX1, 15, rfl, by decide, rfl, in_X1, bw_170⟩
theorem fg_X4_149 : FldG RX4 149 1 13 := ⟨RX1, TX1, 15, rfl, by decide, rfl, in_X1, bw_180⟩
theorem fg_X4_15 : FldG RX4 15 4 5 := ⟨RX4, TX4, 8, rfl, by decide, rfl, in_X4, bw_322⟩
theorem fg_X4_184 : FldG RX4 184 1 14 := ⟨RX1, TX1, 15, rfl, by decide, rfl, in_X1, bw_184⟩
theorem fg_X4_187 : FldG RX4 187 1 9 := ⟨RX1, TX1, 15, rfl, by decide, rfl, in_X1, bw_168⟩
theorem fg_X4_196 : FldG RX4 196 1 7 := ⟨RX1, TX1, 15, rfl, by decide, rfl, in_X1, bw_161⟩
theorem fg_X4_199 : FldG RX4 199 1 8 := ⟨RX1, TX1, 15, rfl, by decide, rfl, in_X1, bw_164⟩
theorem fg_X4_20 : FldG RX4 20 4 6 := ⟨RX4, TX4, 8, rfl, by decide, rfl, in_X4, bw_323⟩
theorem fg_X4_23 : FldG RX4 23 4 7 := ⟨RX4, TX4, 8, rfl, by decide, rfl, in_X4, bw_324⟩
theorem fg_X4_26 : FldG RX4 26 4 0 := ⟨RX4, TX4, 8, rfl, by decide, rfl, in_X4, bw_316⟩
theorem fg_X4_30 : FldG RX4 30 4 1 := ⟨RX4, TX4, 8, rfl, by decide, rfl, in_X4, bw_317⟩
theorem fg_X4_34 : FldG RX4 34 4 2 := ⟨RX4, TX4, 8, rfl, by decide, rfl, in_X4, bw_318⟩
theorem fg_X4_42 : FldG RX4 42 4 3 := ⟨RX4, TX4, 8, rfl, by decide, rfl, in_X4, bw_320⟩
theorem fg_X4_56 : FldG RX4 56 1 0 := ⟨RX1, TX1, 15, rfl, by decide, rfl, in_X1, bw_141⟩
theorem fg_X4_69 : FldG RX4 69 7 0 := ⟨RX7, TX7, 9, rfl, by decide, rfl, in_X7, bw_507⟩
theorem fg_X4_73 : FldG RX4 73 1 1 := ⟨RX1, TX1, 15, rfl, by decide, rfl, in_X1, bw_144⟩
theorem fg_X4_76 : FldG RX4 76 1 2 := ⟨RX1, TX1, 15, rfl, by decide, rfl, in_X1, bw_147⟩
theorem fg_X4_82 : FldG RX4 82 1 5 := ⟨RX1, TX1, 15, rfl, by decide, rfl, in_X1, bw_155⟩
theorem fg_X4_95 : FldG RX4 95 7 4 := ⟨RX7, TX7, 9, rfl, by decide, rfl, in_X7, bw_522⟩
theorem fg_X5_11 : FldG RX5 11 5 1 := ⟨RX5, TX5, 7, rfl, by decide, rfl, in_X5, bw_225⟩
theorem fg_X5_15 : FldG RX5 15 5 2 := ⟨RX5, TX5, 7, rfl, by decide, rfl, in_X5, bw_226⟩
theorem fg_X5_18 : FldG RX5 18 5 3 := ⟨RX5, TX5, 7, rfl, by decide, rfl, in_X5, bw_227⟩
theorem fg_X5_21 : FldG RX5 21 5 4 := ⟨RX5, TX5, 7, rfl, by decide, rfl, in_X5, bw_228⟩
theorem fg_X5_24 : FldG RX5 24 5 5 := ⟨RX5, TX5, 7, rfl, by decide, rfl, in_X5, bw_229⟩
theorem fg_X5_27 : FldG RX5 27 5 6 := ⟨RX5, TX5, 7, rfl, by decide, rfl, in_X5, bw_230⟩
theorem fg_X5_30 : FldG RX5 30 5 0 := ⟨RX5, TX5, 7, rfl, by decide, rfl, in_X5, bw_223⟩
theorem fg_X6_103 : FldG RX6 103 7 2 := ⟨RX7, TX7, 9, rfl, by decide, rfl, in_X7, bw_515⟩
theorem fg_X6_104 : FldG RX6 104 7 3 := ⟨RX7, TX7, 9, rfl, by decide, rfl, in_X7, bw_520⟩
theorem fg_X6_110 : FldG RX6 110 7 4 := ⟨RX7, TX7, 9, rfl, by decide, rfl, in_X7, bw_523⟩
theorem fg_X6_113 : FldG RX6 113 7 5 := ⟨RX7, TX7, 9, rfl, by decide, rfl, in_X7, bw_526⟩
theorem fg_X6_117 : FldG RX6 117 7 6 := ⟨RX7, TX7, 9, rfl, by decide, rfl, in_X7, bw_529⟩
theorem fg_X6_120 : FldG RX6 120 7 7 := ⟨RX7, TX7, 9, rfl, by decide, rfl, in_X7, bw_532⟩
theorem fg_X6_123 : FldG RX6 123 7 8 := ⟨RX7, TX7, 9, rfl, by decide, rfl, in_X7, bw_535⟩
theorem fg_X6_15 : FldG RX6 15 6 2 := ⟨RX6, TX6, 8, rfl, by decide, rfl, in_X6, bw_287⟩
theorem fg_X6_19 : FldG RX6 19 6 3 := ⟨RX6, TX6, 8, rfl, by decide, rfl, in_X6, bw_288⟩
theorem fg_X6_36 : FldG RX6 36 6 4 := ⟨RX6, TX6, 8, rfl, by decide, rfl, in_X6, bw_289⟩
theorem fg_X6_42 : FldG RX6 42 6 5 := ⟨RX6, TX6, 8, rfl, by decide, rfl, in_X6, bw_290⟩
theorem fg_X6_49 : FldG RX6 49 9 2 := ⟨RX9, TX9, 6, rfl, by decide, rfl, in_X9, bw_255⟩
theorem fg_X6_52 : FldG RX6 52 9 3 := ⟨RX9, TX9, 6, rfl, by decide, rfl, in_X9, bw_258⟩
theorem fg_X6_56 : FldG RX6 56 9 4 := ⟨RX9, TX9, 6, rfl, by decide, rfl, in_X9, bw_260⟩
theorem fg_X6_59 : FldG RX6 59 6 6 := ⟨RX6, TX6, 8, rfl, by decide, rfl, in_X6, bw_291⟩
theorem fg_X6_62 : FldG RX6 62 9 5 := ⟨RX9, TX9, 6, rfl, by decide, rfl, in_X9, bw_262⟩
theorem fg_X6_65 : FldG RX6 65 6 7 := ⟨RX6, TX6, 8, rfl, by decide, rfl, in_X6, bw_292⟩
theorem fg_X6_75 : FldG RX6 75 7 1 := ⟨RX7, TX7, 9, rfl, by decide, rfl, in_X7, bw_512⟩
theorem fg_X7_11 : FldG RX7 11 7 1 := ⟨RX7, TX7, 9, rfl, by decide, rfl, in_X7, bw_511⟩
theorem fg_X7_18 : FldG RX7 18 7 3 := ⟨RX7, TX7, 9, rfl, by decide, rfl, in_X7, bw_518⟩
theorem fg_X7_21 : FldG RX7 21 7 4 := ⟨RX7, TX7, 9, rfl, by decide, rfl, in_X7, bw_521⟩
theorem fg_X7_28 : FldG RX7 28 7 6 := ⟨RX7, TX7, 9, rfl, by decide, rfl, in_X7, bw_527⟩
theorem fg_X7_37 : FldG RX7 37 7 0 := ⟨RX7, TX7, 9, rfl, by decide, rfl, in_X7, bw_506⟩
theorem fg_X8_11 : FldG RX8 11 8 3 := ⟨RX8, TX8, 20, rfl, by decide, rfl, in_X8, bw_351⟩
theorem fg_X8_112 : FldG RX8 112 4 2 := ⟨RX4, TX4, 8, rfl, by decide, rfl, in_X4, bw_319⟩
theorem fg_X8_116 : FldG RX8 116 7 0 := ⟨RX7, TX7, 9, rfl, by decide, rfl, in_X7, bw_509⟩
theorem fg_X8_126 : FldG RX8 126 8 9 := ⟨RX8, TX8, 20, rfl, by decide, rfl, in_X8, bw_357⟩
theorem fg_X8_133 : FldG RX8 133 7 2 := ⟨RX7, TX7, 9, rfl, by decide, rfl, in_X7, bw_516⟩
theorem fg_X8_15 : FldG RX8 15 8 4 := ⟨RX8, TX8, 20, rfl, by decide, rfl, in_X8, bw_352⟩
theorem fg_X8_156 : FldG RX8 156 1 14 := ⟨RX1, TX1, 15, rfl, by decide, rfl, in_X1, bw_183⟩
theorem fg_X8_159 : FldG RX8 159 1 9 := ⟨RX1, TX1, 15, rfl, by decide, rfl, in_X1, bw_167⟩
theorem fg_X8_18 : FldG RX8 18 8 5 := ⟨RX8, TX8, 20, rfl, by decide, rfl, in_X8, bw_353⟩
theorem fg_X8_21 : FldG RX8 21 8 6 := ⟨RX8, TX8, 20, rfl, by decide, rfl, in_X8, bw_354⟩
theorem fg_X8_24 : FldG RX8 24 8 7 := ⟨RX8, TX8, 20, rfl, by decide, rfl, in_X8, bw_355⟩
theorem fg_X8_27 : FldG RX8 27 8 8 := ⟨RX8, TX8, 20, rfl, by decide, rfl, in_X8, bw_356⟩
theorem fg_X8_32 : FldG RX8 32 8 10 := ⟨RX8, TX8, 20, rfl, by decide, rfl, in_X8, bw_358⟩
theorem fg_X8_35 : FldG RX8 35 8 11 := ⟨RX8, TX8, 20, rfl, by decide, rfl, in_X8, bw_359⟩
theorem fg_X8_38 : FldG RX8 38 8 12 := ⟨RX8, TX8, 20, rfl, by decide, rfl, in_X8, bw_360⟩
theorem fg_X8_41 : FldG RX8 41 8 13 := ⟨RX8, TX8, 20, rfl, by decide, rfl, in_X8, bw_361⟩
theorem fg_X8_44 : FldG RX8 44 8 14 := ⟨RX8, TX8, 20, rfl, by decide, rfl, in_X8, bw_362⟩
theorem fg_X8_47 : FldG RX8 47 8 15 := ⟨RX8, TX8, 20, rfl, by decide, rfl, in_X8, bw_363⟩
theorem fg_X8_50 : FldG RX8 50 8 0 := ⟨RX8, TX8, 20, rfl, by decide, rfl, in_X8, bw_348⟩
theorem fg_X8_54 : FldG RX8 54 8 1 := ⟨RX8, TX8, 20, rfl, by decide, rfl, in_X8, bw_349⟩
theorem fg_X8_58 : FldG RX8 58 8 2 := ⟨RX8, TX8, 20, rfl, by decide, rfl, in_X8, bw_350⟩
theorem fg_X8_62 : FldG RX8 62 8 17 := ⟨RX8, TX8, 20, rfl, by decide, rfl, in_X8, bw_365⟩
theorem fg_X8_81 : FldG RX8 81 8 16 := ⟨RX8, TX8, 20, rfl, by decide, rfl, in_X8, bw_364⟩
theorem fg_X8_84 : FldG RX8 84 8 18 := ⟨RX8, TX8, 20, rfl, by decide, rfl, in_X8, bw_367⟩
theorem fg_X8_87 : FldG RX8 87 8 19 := ⟨RX8, TX8, 20, rfl, by decide, rfl, in_X8, bw_369⟩
theorem fg_X8_98 : FldG RX8 98 1 13 := ⟨RX1, TX1, 15, rfl, by decide, rfl, in_X1, bw_178⟩
theorem fg_X9_11 : FldG RX9 11 9 1 := ⟨RX9, TX9, 6, rfl, by decide, rfl, in_X9, bw_254⟩
theorem fg_X9_15 : FldG RX9 15 9 3 := ⟨RX9, TX9, 6, rfl, by decide, rfl, in_X9, bw_257⟩
theorem fg_X9_19 : FldG RX9 19 9 4 := ⟨RX9, TX9, 6, rfl, by decide, rfl, in_X9, bw_259⟩
theorem fg_X9_22 : FldG RX9 22 9 5 := ⟨RX9, TX9, 6, rfl, by decide, rfl, in_X9, bw_261⟩
theorem fg_X9_25 : FldG RX9 25 9 0 := ⟨RX9, TX9, 6, rfl, by decide, rfl, in_X9, bw_252⟩
theorem fg_X9_29 : FldG RX9 29 9 2 := ⟨RX9, TX9, 6, rfl, by decide, rfl, in_X9, bw_256⟩
theorem fp_X0_30 : FldP RX0 30 0 0 .int := ⟨RX0, TX0, 5, tyX0, rfl, by decide, rfl, in_X0, bw_482, tyX0_ok, nmX0, rfl, by decide +kernel⟩
theorem fp_X10_101 : FldP RX10 101 10 15 .int := ⟨RX10, TX10, 19, tyX10, rfl, by decide, rfl, in_X10, bw_571, tyX10_ok, nmX10, rfl, by decide +kernel⟩
theorem fp_X10_109 : FldP RX10 109 10 16 .boolean := ⟨RX10, TX10, 19, tyX10, rfl, by decide, rfl, in_X10, bw_572, tyX10_ok, nmX10, rfl, by decide +kernel⟩
theorem fp_X10_113 : FldP RX10 113 10 13 .int := ⟨RX10, TX10, 19, tyX10, rfl, by decide, rfl, in_X10, bw_569, tyX10_ok, nmX10, rfl, by decide +kernel⟩
theorem fp_X10_151 : FldP RX10 151 1 13 .int := ⟨RX1, TX1, 15, tyX1, rfl, by decide, rfl, in_X1, bw_179, tyX1_ok, nmX1, rfl, by decide +kernel⟩
theorem fp_X10_164 : FldP RX10 164 9 0 .int := ⟨RX9, TX9, 6, tyX9, rfl, by decide, rfl, in_X9, bw_253, tyX9_ok, nmX9, rfl, by decide +kernel⟩
theorem fp_X10_331 : FldP RX10 331 10 14 .int := ⟨RX10, TX10, 19, tyX10, rfl, by decide, rfl, in_X10, bw_570, tyX10_ok, nmX10, rfl, by decide +kernel⟩
theorem fp_X10_371 : FldP RX10 371 10 17 .int := ⟨RX10, TX10, 19, tyX10, rfl, by decide, rfl, in_X10, bw_573, tyX10_ok, nmX10, rfl, by decide +kernel⟩
theorem fp_X10_377 : FldP RX10 377 10 18 .int := ⟨RX10, TX10, 19, tyX10, rfl, by decide, rfl, in_X10, bw_574, tyX10_ok, nmX10, rfl, by decide +kernel⟩
theorem fp_X10_94 : FldP RX10 94 10 11 (.object "ClassMaker$Rules") := ⟨RX10, TX10, 19, tyX10, rfl, by decide, rfl, in_X10, bw_567, tyX10_ok, nmX10, rfl, by decide +kernel⟩
theorem fp_X10_98 : FldP RX10 98 10 12 (.object "ClassMaker$Rules") := ⟨RX10, TX10, 19, tyX10, rfl, by decide, rfl, in_X10, bw_568, tyX10_ok, nmX10, rfl, by decide +kernel⟩
theorem fp_X11_109 : FldP RX11 109 11 48 .int := ⟨RX11, TX11, 61, tyX11, rfl, by decide, rfl, in_X11, bw_1424, tyX11_ok, nmX11, rfl, by decide +kernel⟩
theorem fp_X11_139 : FldP RX11 139 11 0 .int := ⟨RX11, TX11, 61, tyX11, rfl, by decide, rfl, in_X11, bw_1376, tyX11_ok, nmX11, rfl, by decide +kernel⟩
theorem fp_X11_142 : FldP RX11 142 11 1 .int := ⟨RX11, TX11, 61, tyX11, rfl, by decide, rfl, in_X11, bw_1377, tyX11_ok, nmX11, rfl, by decide +kernel⟩
theorem fp_X11_153 : FldP RX11 153 11 14 .int := ⟨RX11, TX11, 61, tyX11, rfl, by decide, rfl, in_X11, bw_1390, tyX11_ok, nmX11, rfl, by decide +kernel⟩
theorem fp_X11_156 : FldP RX11 156 11 43 .boolean := ⟨RX11, TX11, 61, tyX11, rfl, by decide, rfl, in_X11, bw_1419, tyX11_ok, nmX11, rfl, by decide +kernel⟩
theorem fp_X11_168 : FldP RX11 168 11 15 .int := ⟨RX11, TX11, 61, tyX11, rfl, by decide, rfl, in_X11, bw_1391, tyX11_ok, nmX11, rfl, by decide +kernel⟩
theorem fp_X11_210 : FldP RX11 210 11 32 .int := ⟨RX11, TX11, 61, tyX11, rfl, by decide, rfl, in_X11, bw_1408, tyX11_ok, nmX11, rfl, by decide +kernel⟩
theorem fp_X11_213 : FldP RX11 213 11 36 .int := ⟨RX11, TX11, 61, tyX11, rfl, by decide, rfl, in_X11, bw_1412, tyX11_ok, nmX11, rfl, by decide +kernel⟩
theorem fp_X11_216 : FldP RX11 216 11 35 .int := ⟨RX11, TX11, 61, tyX11, rfl, by decide, rfl, in_X11, bw_1411, tyX11_ok, nmX11, rfl, by decide +kernel⟩
theorem fp_X11_223 : FldP RX11 223 11 38 .int := ⟨RX11, TX11, 61, tyX11, rfl, by decide, rfl, in_X11, bw_1414, tyX11_ok, nmX11, rfl, by decide +kernel⟩
theorem fp_X11_232 : FldP RX11 232 11 37 .int := ⟨RX11, TX11, 61, tyX11, rfl, by decide, rfl, in_X11, bw_1413, tyX11_ok, nmX11, rfl, by decide +kernel⟩
theorem fp_X11_245 : FldP RX11 245 11 33 .int := ⟨RX11, TX11, 61, tyX11, rfl, by decide, rfl, in_X11, bw_1409, tyX11_ok, nmX11, rfl, by decide +kernel⟩
theorem fp_X11_283 : FldP RX11 283 11 22 .int := ⟨RX11, TX11, 61, tyX11, rfl, by decide, rfl, in_X11, bw_1398, tyX11_ok, nmX11, rfl, by decide +kernel⟩
theorem fp_X11_307 : FldP RX11 307 11 21 .int := ⟨RX11, TX11, 61, tyX11, rfl, by decide, rfl, in_X11, bw_1397, tyX11_ok, nmX11, rfl, by decide +kernel⟩
theorem fp_X11_346 : FldP RX11 346 11 44 .int := ⟨RX11, TX11, 61, tyX11, rfl, by decide, rfl, in_X11, bw_1420, tyX11_ok, nmX11, rfl, by decide +kernel⟩
theorem fp_X11_349 : FldP RX11 349 11 45 .int := ⟨RX11, TX11, 61, tyX11, rfl, by decide, rfl, in_X11, bw_1421, tyX11_ok, nmX11, rfl, by decide +kernel⟩
theorem fp_X11_387 : FldP RX11 387 11 46 .int := ⟨RX11, TX11, 61, tyX11, rfl, by decide, rfl, in_X11, bw_1422, tyX11_ok, nmX11, rfl, by decide +kernel⟩
theorem fp_X11_396 : FldP RX11 396 11 50 .int := ⟨RX11, TX11, 61, tyX11, rfl, by decide, rfl, in_X11, bw_1426, tyX11_ok, nmX11, rfl, by decide +kernel⟩
theorem fp_X11_405 : FldP RX11 405 11 55 .int := ⟨RX11, TX11, 61, tyX11, rfl, by decide, rfl, in_X11, bw_1431, tyX11_ok, nmX11, rfl, by decide +kernel⟩
theorem fp_X11_409 : FldP RX11 409 11 56 .int := ⟨RX11, TX11, 61, tyX11, rfl, by decide, rfl, in_X11, bw_1432, tyX11_ok, nmX11, rfl, by decide +kernel⟩
theorem fp_X11_41 : FldP RX11 41 11 12 .int := ⟨RX11, TX11, 61, tyX11, rfl, by decide, rfl, in_X11, bw_1388, tyX11_ok, nmX11, rfl, by decide +kernel⟩
theorem fp_X11_91 : FldP RX11 91 11 34 .int := ⟨RX11, TX11, 61, tyX11, rfl, by decide, rfl, in_X11, bw_1410, tyX11_ok, nmX11, rfl, by decide +kernel⟩
theorem fp_X1_61 : FldP RX1 61 1 0 .int := ⟨RX1, TX1, 15, tyX1, rfl, by decide, rfl, in_X1, bw_139, tyX1_ok, nmX1, rfl, by decide +kernel⟩
theorem fp_X2_48 : FldP RX2 48 2 5 .int := ⟨RX2, TX2, 7, tyX2, rfl, by decide, rfl, in_X2, bw_425, tyX2_ok, nmX2, rfl, by decide +kernel⟩
theorem fp_X2_54 : FldP RX2 54 2 6 .int := ⟨RX2, TX2, 7, tyX2, rfl, by decide, rfl, in_X2, bw_427, tyX2_ok, nmX2, rfl, by decide +kernel⟩
theorem fp_X2_57 : FldP RX2 57 2 4 .int := ⟨RX2, TX2, 7, tyX2, rfl, by decide, rfl, in_X2, bw_423, tyX2_ok, nmX2, rfl, by decide +kernel⟩
theorem fp_X3_27 : FldP RX3 27 3 0 .int := ⟨RX3, TX3, 7, tyX3, rfl, by decide, rfl, in_X3, bw_450, tyX3_ok, nmX3, rfl, by decide +kernel⟩
theorem fp_X3_41 : FldP RX3 41 3 6 .int := ⟨RX3, TX3, 7, tyX3, rfl, by decide, rfl, in_X3, bw_458, tyX3_ok, nmX3, rfl, by decide +kernel⟩
theorem fp_X4_34 : FldP RX4 34 4 2 (.object "ClassMaker$Rules") := ⟨RX4, TX4, 8, tyX4, rfl, by decide, rfl, in_X4, bw_318, tyX4_ok, nmX4, rfl, by decide +kernel⟩
theorem fp_X4_42 : FldP RX4 42 4 3 .int := ⟨RX4, TX4, 8, tyX4, rfl, by decide, rfl, in_X4, bw_320, tyX4_ok, nmX4, rfl, by decide +kernel⟩
theorem fp_X5_30 : FldP RX5 30 5 0 .int := ⟨RX5, TX5, 7, tyX5, rfl, by decide, rfl, in_X5, bw_223, tyX5_ok, nmX5, rfl, by decide +kernel⟩
theorem fp_X6_19 : FldP RX6 19 6 3 (.object "ClassMaker$Rules") := ⟨RX6, TX6, 8, tyX6, rfl, by decide, rfl, in_X6, bw_288, tyX6_ok, nmX6, rfl, by decide +kernel⟩
theorem fp_X6_28 : FldP RX6 28 6 0 .int := ⟨RX6, TX6, 8, tyX6, rfl, by decide, rfl, in_X6, bw_283, tyX6_ok, nmX6, rfl, by decide +kernel⟩
theorem fp_X6_36 : FldP RX6 36 6 4 .int := ⟨RX6, TX6, 8, tyX6, rfl, by decide, rfl, in_X6, bw_289, tyX6_ok, nmX6, rfl, by decide +kernel⟩
theorem fp_X6_42 : FldP RX6 42 6 5 .int := ⟨RX6, TX6, 8, tyX6, rfl, by decide, rfl, in_X6, bw_290, tyX6_ok, nmX6, rfl, by decide +kernel⟩
theorem fp_X6_59 : FldP RX6 59 6 6 .int := ⟨RX6, TX6, 8, tyX6, rfl, by decide, rfl, in_X6, bw_291, tyX6_ok, nmX6, rfl, by decide +kernel⟩
theorem fp_X6_65 : FldP RX6 65 6 7 .int := ⟨RX6, TX6, 8, tyX6, rfl, by decide, rfl, in_X6, bw_292, tyX6_ok, nmX6, rfl, by decide +kernel⟩
theorem fp_X6_78 : FldP RX6 78 7 0 .int := ⟨RX7, TX7, 9, tyX7, rfl, by decide, rfl, in_X7, bw_508, tyX7_ok, nmX7, rfl, by decide +kernel⟩
theorem fp_X6_9 : FldP RX6 9 6 1 .int := ⟨RX6, TX6, 8, tyX6, rfl, by decide, rfl, in_X6, bw_285, tyX6_ok, nmX6, rfl, by decide +kernel⟩
theorem fp_X7_37 : FldP RX7 37 7 0 .int := ⟨RX7, TX7, 9, tyX7, rfl, by decide, rfl, in_X7, bw_506, tyX7_ok, nmX7, rfl, by decide +kernel⟩
theorem fp_X8_126 : FldP RX8 126 8 9 .int := ⟨RX8, TX8, 20, tyX8, rfl, by decide, rfl, in_X8, bw_357, tyX8_ok, nmX8, rfl, by decide +kernel⟩
theorem fp_X8_58 : FldP RX8 58 8 2 .int := ⟨RX8, TX8, 20, tyX8, rfl, by decide, rfl, in_X8, bw_350, tyX8_ok, nmX8, rfl, by decide +kernel⟩
theorem fp_X8_62 : FldP RX8 62 8 17 .boolean := ⟨RX8, TX8, 20, tyX8, rfl, by decide, rfl, in_X8, bw_365, tyX8_ok, nmX8, rfl, by decide +kernel⟩
theorem fp_X8_81 : FldP RX8 81 8 16 .int := ⟨RX8, TX8, 20, tyX8, rfl, by decide, rfl, in_X8, bw_364, tyX8_ok, nmX8, rfl, by decide +kernel⟩
theorem fp_X8_84 : FldP RX8 84 8 18 .int := ⟨RX8, TX8, 20, tyX8, rfl, by decide, rfl, in_X8, bw_367, tyX8_ok, nmX8, rfl, by decide +kernel⟩
theorem fp_X8_87 : FldP RX8 87 8 19 .int := ⟨RX8, TX8, 20, tyX8, rfl, by decide, rfl, in_X8, bw_369, tyX8_ok, nmX8, rfl, by decide +kernel⟩
theorem fp_X9_25 : FldP RX9 25 9 0 .int := ⟨RX9, TX9, 6, tyX9, rfl, by decide, rfl, in_X9, bw_252, tyX9_ok, nmX9, rfl, by decide +kernel⟩
theorem fp_X9_29 : FldP RX9 29 9 2 .int := ⟨RX9, TX9, 6, tyX9, rfl, by decide, rfl, in_X9, bw_256, tyX9_ok, nmX9, rfl, by decide +kernel⟩
theorem kc_J6_265 : Cond.constant RJ6 265 (i2 1431655765) ∈ BW := (BW_in (List.mem_of_getElem? (i := 951) (by decide +kernel)) rfl)
theorem kc_J6_266 : Cond.constant RJ6 266 (i2 858993459) ∈ BW := (BW_in (List.mem_of_getElem? (i := 952) (by decide +kernel)) rfl)
theorem kc_J6_267 : Cond.constant RJ6 267 (i2 252645135) ∈ BW := (BW_in (List.mem_of_getElem? (i := 953) (by decide +kernel)) rfl)
theorem kc_X10_193 : Cond.constant RX10 193 (i2 100000) ∈ BW := (BW_in (List.mem_of_getElem? (i := 907) (by decide +kernel)) rfl)
theorem kc_X11_336 : Cond.constant RX11 336 (i2 1000000000) ∈ BW := (BW_in (List.mem_of_getElem? (i := 1766) (by decide +kernel)) rfl)
theorem kc_X11_408 : Cond.constant RX11 408 (i2 100000) ∈ BW := (BW_in (List.mem_of_getElem? (i := 1927) (by decide +kernel)) rfl)
theorem kc_X2_67 : Cond.constant RX2 67 (i2 1000000) ∈ BW := (BW_in (List.mem_of_getElem? (i := 1104) (by decide +kernel)) rfl)
theorem aw_X3_44 : Cond.methodLink RX3 44 arraycopyName ∈ BW ∧ Cond.native arraycopyName ∈ BW ∧ Cond.static arraycopyName ∈ BW ∧ Cond.initialized "java/lang/System" ∈ BW := ⟨bw_1235, bw_1020, bw_1019, bw_117⟩
theorem aw_X8_168 : Cond.methodLink RX8 168 arraycopyName ∈ BW ∧ Cond.native arraycopyName ∈ BW ∧ Cond.static arraycopyName ∈ BW ∧ Cond.initialized "java/lang/System" ∈ BW := ⟨bw_1018, bw_1020, bw_1019, bw_117⟩
theorem lk_X10_105 : LkS RX10 105 yX10_within cX10_within 3 (some .boolean) 3 := ⟨⟨bw_620, bw_618, bw_98, ⟨by decide +kernel, by decide +kernel, by decide +kernel⟩⟩, bw_619⟩
theorem lk_X10_116 : LkV RX10 116 yX1_admit cX1_admit 5 (some .int) 4 := ⟨⟨bw_624, bw_621, bw_99, ⟨by decide +kernel, by decide +kernel, by decide +kernel⟩⟩, bw_622, bw_623⟩
theorem lk_X10_120 : LkV RX10 120 yX1_has cX1_has 2 (some .boolean) 1 := ⟨⟨bw_632, bw_629, bw_99, ⟨by decide +kernel, by decide +kernel, by decide +kernel⟩⟩, bw_630, bw_631⟩
theorem lk_X10_124 : LkV RX10 124 yX5_add cX5_add 6 (some .boolean) 5 := ⟨⟨bw_636, bw_633, bw_101, ⟨by decide +kernel, by decide +kernel, by decide +kernel⟩⟩, bw_634, bw_635⟩
theorem lk_X10_128 : LkV RX10 128 yX1_areTwo cX1_areTwo 3 (some .boolean) 2 := ⟨⟨bw_644, bw_641, bw_99, ⟨by decide +kernel, by decide +kernel, by decide +kernel⟩⟩, bw_642, bw_643⟩
theorem lk_X10_138 : LkS RX10 138 yX10_setPair cX10_setPair 4 (some .boolean) 4 := ⟨⟨bw_652, bw_650, bw_98, ⟨by decide +kernel, by decide +kernel, by decide +kernel⟩⟩, bw_651⟩
theorem lk_X10_148 : LkS RX10 148 yX10_setBit cX10_setBit 5 (some .boolean) 4 := ⟨⟨bw_655, bw_653, bw_98, ⟨by decide +kernel, by decide +kernel, by decide +kernel⟩⟩, bw_654⟩
theorem lk_X10_157 : LkV RX10 157 yX9_hasSpace cX9_hasSpace 2 (some .boolean) 1 := ⟨⟨bw_679, bw_676, bw_102, ⟨by decide +kernel, by decide +kernel, by decide +kernel⟩⟩, bw_677, bw_678⟩
theorem lk_X10_160 : LkV RX10 160 yX9_append cX9_append 3 none 1 := ⟨⟨bw_683, bw_680, bw_102, ⟨by decide +kernel, by decide +kernel, by decide +kernel⟩⟩, bw_681, bw_682⟩
theorem lk_X10_167 : LkV RX10 167 yX6_reads cX6_reads 3 (some .boolean) 1 := ⟨⟨bw_695, bw_692, bw_103, ⟨by decide +kernel, by decide +kernel, by decide +kernel⟩⟩, bw_693, bw_694⟩
theorem lk_X10_180 : LkV RX10 180 yX10_isDay cX10_isDay 2 (some .boolean) 1 := ⟨⟨bw_836, bw_833, bw_98, ⟨by decide +kernel, by decide +kernel, by decide +kernel⟩⟩, bw_835, bw_15⟩
theorem lk_X10_183 : LkV RX10 183 yX7_takesTerms cX7_takesTerms 3 (some .boolean) 2 := ⟨⟨bw_840, bw_837, bw_109, ⟨by decide +kernel, by decide +kernel, by decide +kernel⟩⟩, bw_838, bw_839⟩
theorem lk_X10_186 : LkV RX10 186 yX4_prepare cX4_prepare 5 none 2 := ⟨⟨bw_844, bw_841, bw_104, ⟨by decide +kernel, by decide +kernel, by decide +kernel⟩⟩, bw_842, bw_843⟩
theorem lk_X10_190 : LkV RX10 190 yX4_meets cX4_meets 5 (some .boolean) 2 := ⟨⟨bw_897, bw_902, bw_104, ⟨by decide +kernel, by decide +kernel, by decide +kernel⟩⟩, bw_895, bw_896⟩
theorem lk_X10_195 : LkV RX10 195 yX0_write cX0_write 5 none 3 := ⟨⟨bw_911, bw_908, bw_108, ⟨by decide +kernel, by decide +kernel, by decide +kernel⟩⟩, bw_909, bw_910⟩
theorem lk_X10_199 : LkV RX10 199 yX10_bestPlan cX10_bestPlan 2 (some .int) 1 := ⟨⟨bw_919, bw_916, bw_98, ⟨by decide +kernel, by decide +kernel, by decide +kernel⟩⟩, bw_918, bw_20⟩
theorem lk_X10_203 : LkV RX10 203 yX8_seatOf cX8_seatOf 3 (some .int) 1 := ⟨⟨bw_1048, bw_1045, bw_105, ⟨by decide +kernel, by decide +kernel, by decide +kernel⟩⟩, bw_1046, bw_1047⟩
theorem lk_X10_206 : LkV RX10 206 yX10_takeSearched cX10_takeSearched 2 none 0 := ⟨⟨bw_1056, bw_1053, bw_98, ⟨by decide +kernel, by decide +kernel, by decide +kernel⟩⟩, bw_1055, bw_36⟩
theorem lk_X10_209 : LkV RX10 209 yX2_starts cX2_starts 3 (some .boolean) 0 := ⟨⟨bw_1064, bw_1061, bw_106, ⟨by decide +kernel, by decide +kernel, by decide +kernel⟩⟩, bw_1062, bw_1063⟩
theorem lk_X10_213 : LkV RX10 213 yX2_improve cX2_improve 1 none 0 := ⟨⟨bw_1103, bw_1100, bw_106, ⟨by decide +kernel, by decide +kernel, by decide +kernel⟩⟩, bw_1101, bw_1102⟩
theorem lk_X10_228 : LkV RX10 228 yX10_gatherList cX10_gatherList 3 none 0 := ⟨⟨bw_1128, bw_1125, bw_98, ⟨by decide +kernel, by decide +kernel, by decide +kernel⟩⟩, bw_1127, bw_43⟩
theorem lk_X10_231 : LkV RX10 231 yX4_allows cX4_allows 2 (some .boolean) 1 := ⟨⟨bw_1132, bw_1129, bw_104, ⟨by decide +kernel, by decide +kernel, by decide +kernel⟩⟩, bw_1130, bw_1131⟩
theorem lk_X10_235 : LkV RX10 235 yX4_harmOf cX4_harmOf 4 (some .int) 1 := ⟨⟨bw_1082, bw_1135, bw_104, ⟨by decide +kernel, by decide +kernel, by decide +kernel⟩⟩, bw_1080, bw_1081⟩
theorem lk_X10_239 : LkV RX10 239 yX10_countListed cX10_countListed 3 (some .int) 0 := ⟨⟨bw_1143, bw_1140, bw_98, ⟨by decide +kernel, by decide +kernel, by decide +kernel⟩⟩, bw_1142, bw_44⟩
theorem lk_X10_243 : LkV RX10 243 yX8_begin cX8_begin 1 none 0 := ⟨⟨bw_931, bw_928, bw_105, ⟨by decide +kernel, by decide +kernel, by decide +kernel⟩⟩, bw_929, bw_930⟩
theorem lk_X10_246 : LkV RX10 246 yX8_admit cX8_admit 3 none 2 := ⟨⟨bw_935, bw_932, bw_105, ⟨by decide +kernel, by decide +kernel, by decide +kernel⟩⟩, bw_933, bw_934⟩
theorem lk_X10_249 : LkV RX10 249 yX8_run cX8_run 1 none 0 := ⟨⟨bw_939, bw_936, bw_105, ⟨by decide +kernel, by decide +kernel, by decide +kernel⟩⟩, bw_937, bw_938⟩
theorem lk_X10_258 : LkV RX10 258 yX0_seatAt cX0_seatAt 5 (some .int) 2 := ⟨⟨bw_1155, bw_1152, bw_108, ⟨by decide +kernel, by decide +kernel, by decide +kernel⟩⟩, bw_1153, bw_1154⟩
theorem lk_X10_262 : LkV RX10 262 yX1_bestWish cX1_bestWish 5 (some .int) 2 := ⟨⟨bw_1163, bw_1160, bw_99, ⟨by decide +kernel, by decide +kernel, by decide +kernel⟩⟩, bw_1161, bw_1162⟩
theorem lk_X10_265 : LkV RX10 265 yX4_harmBy cX4_harmBy 7 (some .int) 2 := ⟨⟨bw_1086, bw_1168, bw_104, ⟨by decide +kernel, by decide +kernel, by decide +kernel⟩⟩, bw_1084, bw_1085⟩
theorem lk_X10_269 : LkV RX10 269 yX4_lackOf cX4_lackOf 4 (some .int) 1 := ⟨⟨bw_1098, bw_1173, bw_104, ⟨by decide +kernel, by decide +kernel, by decide +kernel⟩⟩, bw_1096, bw_1097⟩
theorem lk_X10_272 : LkV RX10 272 yX10_searchSwaps cX10_searchSwaps 5 (some .int) 1 := ⟨⟨bw_1181, bw_1178, bw_98, ⟨by decide +kernel, by decide +kernel, by decide +kernel⟩⟩, bw_1180, bw_45⟩
theorem lk_X10_289 : LkV RX10 289 yX1_naming cX1_naming 4 (some .int) 1 := ⟨⟨bw_885, bw_1194, bw_99, ⟨by decide +kernel, by decide +kernel, by decide +kernel⟩⟩, bw_883, bw_884⟩
theorem lk_X10_292 : LkV RX10 292 yX1_reach cX1_reach 6 (some .int) 1 := ⟨⟨bw_1202, bw_1199, bw_99, ⟨by decide +kernel, by decide +kernel, by decide +kernel⟩⟩, bw_1200, bw_1201⟩
theorem lk_X10_295 : LkV RX10 295 yX3_add cX3_add 2 (some .int) 1 := ⟨⟨bw_1211, bw_1208, bw_107, ⟨by decide +kernel, by decide +kernel, by decide +kernel⟩⟩, bw_1209, bw_1210⟩
theorem lk_X10_298 : LkV RX10 298 yX5_learn cX5_learn 3 none 1 := ⟨⟨bw_852, bw_1216, bw_101, ⟨by decide +kernel, by decide +kernel, by decide +kernel⟩⟩, bw_850, bw_851⟩
theorem lk_X10_301 : LkV RX10 301 yX3_clear cX3_clear 1 none 0 := ⟨⟨bw_1220, bw_1217, bw_107, ⟨by decide +kernel, by decide +kernel, by decide +kernel⟩⟩, bw_1218, bw_1219⟩
theorem lk_X10_304 : LkV RX10 304 yX5_level cX5_level 4 (some .int) 2 := ⟨⟨bw_869, bw_1222, bw_101, ⟨by decide +kernel, by decide +kernel, by decide +kernel⟩⟩, bw_867, bw_868⟩
theorem lk_X10_307 : LkV RX10 307 yX3_addNeed cX3_addNeed 3 none 2 := ⟨⟨bw_1226, bw_1223, bw_107, ⟨by decide +kernel, by decide +kernel, by decide +kernel⟩⟩, bw_1224, bw_1225⟩
theorem lk_X10_310 : LkV RX10 310 yX3_divide cX3_divide 5 none 1 := ⟨⟨bw_1230, bw_1227, bw_107, ⟨by decide +kernel, by decide +kernel, by decide +kernel⟩⟩, bw_1228, bw_1229⟩
theorem lk_X10_325 : LkV RX10 325 yX10_partPairs cX10_partPairs 3 none 0 := ⟨⟨bw_1248, bw_1245, bw_98, ⟨by decide +kernel, by decide +kernel, by decide +kernel⟩⟩, bw_1247, bw_48⟩
theorem lk_X10_328 : LkV RX10 328 yX10_settle cX10_settle 4 (some .int) 0 := ⟨⟨bw_1261, bw_1258, bw_98, ⟨by decide +kernel, by decide +kernel, by decide +kernel⟩⟩, bw_1260, bw_49⟩
theorem lk_X10_337 : LkV RX10 337 yX5_overall cX5_overall 7 (some .int) 2 := ⟨⟨bw_873, bw_1271, bw_101, ⟨by decide +kernel, by decide +kernel, by decide +kernel⟩⟩, bw_871, bw_872⟩
theorem lk_X10_340 : LkV RX10 340 yX5_scale cX5_scale 9 (some .int) 3 := ⟨⟨bw_877, bw_1272, bw_101, ⟨by decide +kernel, by decide +kernel, by decide +kernel⟩⟩, bw_875, bw_876⟩
theorem lk_X10_361 : LkS RX10 361 yJ6_bitCount_0f7a4 cJ6_bitCount_0f7a4 1 (some .int) 1 := ⟨⟨bw_950, bw_1281, bw_116, ⟨by decide +kernel, by decide +kernel, by decide +kernel⟩⟩, bw_949⟩
theorem lk_X10_368 : LkV RX10 368 yX10_countClass cX10_countClass 2 (some .int) 1 := ⟨⟨bw_1280, bw_1277, bw_98, ⟨by decide +kernel, by decide +kernel, by decide +kernel⟩⟩, bw_1279, bw_50⟩
theorem lk_X10_374 : LkV RX10 374 yX10_searchBest cX10_searchBest 4 (some .int) 1 := ⟨⟨bw_923, bw_920, bw_98, ⟨by decide +kernel, by decide +kernel, by decide +kernel⟩⟩, bw_922, bw_21⟩
theorem lk_X10_380 : LkV RX10 380 yX1_cameBy cX1_cameBy 4 (some .int) 1 := ⟨⟨bw_927, bw_924, bw_99, ⟨by decide +kernel, by decide +kernel, by decide +kernel⟩⟩, bw_925, bw_926⟩
theorem lk_X10_386 : LkV RX10 386 yX10_bettersBoth cX10_bettersBoth 9 (some .boolean) 2 := ⟨⟨bw_1185, bw_1182, bw_98, ⟨by decide +kernel, by decide +kernel, by decide +kernel⟩⟩, bw_1184, bw_46⟩
theorem lk_X10_389 : LkV RX10 389 yX1_wentBadly cX1_wentBadly 2 (some .boolean) 1 := ⟨⟨bw_1252, bw_1249, bw_99, ⟨by decide +kernel, by decide +kernel, by decide +kernel⟩⟩, bw_1250, bw_1251⟩
theorem lk_X10_392 : LkV RX10 392 yX1_addRegret cX1_addRegret 4 none 2 := ⟨⟨bw_1256, bw_1253, bw_99, ⟨by decide +kernel, by decide +kernel, by decide +kernel⟩⟩, bw_1254, bw_1255⟩
theorem lk_X10_82 : LkS RX10 82 yJ7_fill_53178 cJ7_fill_53178 4 none 2 := ⟨⟨bw_138, bw_499, bw_100, ⟨by decide +kernel, by decide +kernel, by decide +kernel⟩⟩, bw_137⟩
theorem lk_X11_145 : LkS RX11 145 yX11_within cX11_within 3 (some .boolean) 3 := ⟨⟨bw_1570, bw_1568, bw_110, ⟨by decide +kernel, by decide +kernel, by decide +kernel⟩⟩, bw_1569⟩
theorem lk_X11_149 : LkV RX11 149 yX11_isChild cX11_isChild 2 (some .boolean) 1 := ⟨⟨bw_1578, bw_1575, bw_110, ⟨by decide +kernel, by decide +kernel, by decide +kernel⟩⟩, bw_1577, bw_52⟩
theorem lk_X11_160 : LkV RX11 160 yX11_areTwo cX11_areTwo 3 (some .boolean) 2 := ⟨⟨bw_1582, bw_1579, bw_110, ⟨by decide +kernel, by decide +kernel, by decide +kernel⟩⟩, bw_1581, bw_53⟩
theorem lk_X11_164 : LkV RX11 164 yX11_turns cX11_turns 5 (some .boolean) 4 := ⟨⟨bw_1590, bw_1587, bw_110, ⟨by decide +kernel, by decide +kernel, by decide +kernel⟩⟩, bw_1589, bw_54⟩
theorem lk_X11_171 : LkV RX11 171 yX11_raw cX11_raw 7 (some .int) 4 := ⟨⟨bw_1626, bw_1623, bw_110, ⟨by decide +kernel, by decide +kernel, by decide +kernel⟩⟩, bw_1625, bw_57⟩
theorem lk_X11_175 : LkV RX11 175 yX11_scaledOf cX11_scaledOf 10 (some .int) 4 := ⟨⟨bw_1622, bw_1619, bw_110, ⟨by decide +kernel, by decide +kernel, by decide +kernel⟩⟩, bw_1621, bw_56⟩
theorem lk_X11_178 : LkV RX11 178 yX11_together cX11_together 8 (some .int) 3 := ⟨⟨bw_1618, bw_1615, bw_110, ⟨by decide +kernel, by decide +kernel, by decide +kernel⟩⟩, bw_1617, bw_55⟩
theorem lk_X11_219 : LkV RX11 219 yX11_byteAt cX11_byteAt 2 (some .int) 1 := ⟨⟨bw_1646, bw_1643, bw_110, ⟨by decide +kernel, by decide +kernel, by decide +kernel⟩⟩, bw_1645, bw_59⟩
theorem lk_X11_226 : LkS RX11 226 yX11_isSmall cX11_isSmall 1 (some .boolean) 1 := ⟨⟨bw_1649, bw_1647, bw_110, ⟨by decide +kernel, by decide +kernel, by decide +kernel⟩⟩, bw_1648⟩
theorem lk_X11_229 : LkS RX11 229 yX11_isDigit cX11_isDigit 1 (some .boolean) 1 := ⟨⟨bw_1652, bw_1650, bw_110, ⟨by decide +kernel, by decide +kernel, by decide +kernel⟩⟩, bw_1651⟩
theorem lk_X11_248 : LkS RX11 248 yX11_factWord cX11_factWord 1 (some (.object "java/lang/String")) 1 := ⟨⟨bw_1703, bw_1701, bw_110, ⟨by decide +kernel, by decide +kernel, by decide +kernel⟩⟩, bw_1702⟩
theorem lk_X11_252 : LkV RX11 252 yX11_isWord cX11_isWord 4 (some .boolean) 1 := ⟨⟨bw_1676, bw_1673, bw_110, ⟨by decide +kernel, by decide +kernel, by decide +kernel⟩⟩, bw_1675, bw_62⟩
theorem lk_X11_256 : LkS RX11 256 yX11_sortWord cX11_sortWord 1 (some (.object "java/lang/String")) 1 := ⟨⟨bw_1663, bw_1661, bw_110, ⟨by decide +kernel, by decide +kernel, by decide +kernel⟩⟩, bw_1662⟩
theorem lk_X11_259 : LkV RX11 259 yX11_wrong cX11_wrong 2 (some .boolean) 1 := ⟨⟨bw_1682, bw_1679, bw_110, ⟨by decide +kernel, by decide +kernel, by decide +kernel⟩⟩, bw_1681, bw_63⟩
theorem lk_X11_262 : LkV RX11 262 yX11_next cX11_next 2 none 0 := ⟨⟨bw_1642, bw_1639, bw_110, ⟨by decide +kernel, by decide +kernel, by decide +kernel⟩⟩, bw_1641, bw_58⟩
theorem lk_X11_265 : LkV RX11 265 yX11_isSign cX11_isSign 2 (some .boolean) 1 := ⟨⟨bw_1690, bw_1687, bw_110, ⟨by decide +kernel, by decide +kernel, by decide +kernel⟩⟩, bw_1689, bw_65⟩
theorem lk_X11_272 : LkV RX11 272 yX11_factHere cX11_factHere 2 (some .int) 0 := ⟨⟨bw_1700, bw_1697, bw_110, ⟨by decide +kernel, by decide +kernel, by decide +kernel⟩⟩, bw_1699, bw_67⟩
theorem lk_X11_275 : LkV RX11 275 yX11_takesTerm cX11_takesTerm 2 (some .boolean) 1 := ⟨⟨bw_1714, bw_1711, bw_110, ⟨by decide +kernel, by decide +kernel, by decide +kernel⟩⟩, bw_1713, bw_68⟩
theorem lk_X11_280 : LkV RX11 280 yX11_sortHere cX11_sortHere 2 (some .int) 0 := ⟨⟨bw_1660, bw_1657, bw_110, ⟨by decide +kernel, by decide +kernel, by decide +kernel⟩⟩, bw_1659, bw_61⟩
theorem lk_X11_286 : LkV RX11 286 yX11_isBody cX11_isBody 3 (some .boolean) 2 := ⟨⟨bw_1686, bw_1683, bw_110, ⟨by decide +kernel, by decide +kernel, by decide +kernel⟩⟩, bw_1685, bw_64⟩
theorem lk_X11_289 : LkV RX11 289 yX11_takesSign cX11_takesSign 2 (some .boolean) 1 := ⟨⟨bw_1719, bw_1716, bw_110, ⟨by decide +kernel, by decide +kernel, by decide +kernel⟩⟩, bw_1718, bw_69⟩
theorem lk_X11_292 : LkV RX11 292 yX11_takesTerms cX11_takesTerms 4 (some .boolean) 1 := ⟨⟨bw_1694, bw_1691, bw_110, ⟨by decide +kernel, by decide +kernel, by decide +kernel⟩⟩, bw_1693, bw_66⟩
theorem lk_X11_295 : LkV RX11 295 yX11_takesNumber cX11_takesNumber 2 (some .boolean) 1 := ⟨⟨bw_1723, bw_1720, bw_110, ⟨by decide +kernel, by decide +kernel, by decide +kernel⟩⟩, bw_1722, bw_70⟩
theorem lk_X11_303 : LkV RX11 303 yX11_statement cX11_statement 3 (some .boolean) 0 := ⟨⟨bw_1656, bw_1653, bw_110, ⟨by decide +kernel, by decide +kernel, by decide +kernel⟩⟩, bw_1655, bw_60⟩
theorem lk_X11_310 : LkS RX11 310 yX11_orFive cX11_orFive 1 (some .int) 1 := ⟨⟨bw_1741, bw_1739, bw_110, ⟨by decide +kernel, by decide +kernel, by decide +kernel⟩⟩, bw_1740⟩
theorem lk_X11_313 : LkV RX11 313 yX11_wishesOf cX11_wishesOf 4 (some .int) 1 := ⟨⟨bw_1745, bw_1742, bw_110, ⟨by decide +kernel, by decide +kernel, by decide +kernel⟩⟩, bw_1744, bw_72⟩
theorem lk_X11_316 : LkV RX11 316 yX11_namedBy cX11_namedBy 4 (some .int) 1 := ⟨⟨bw_1749, bw_1746, bw_110, ⟨by decide +kernel, by decide +kernel, by decide +kernel⟩⟩, bw_1748, bw_73⟩
theorem lk_X11_319 : LkV RX11 319 yX11_allHold cX11_allHold 7 (some .boolean) 2 := ⟨⟨bw_1753, bw_1750, bw_110, ⟨by decide +kernel, by decide +kernel, by decide +kernel⟩⟩, bw_1752, bw_74⟩
theorem lk_X11_322 : LkV RX11 322 yX11_learns cX11_learns 4 none 1 := ⟨⟨bw_1738, bw_1735, bw_110, ⟨by decide +kernel, by decide +kernel, by decide +kernel⟩⟩, bw_1737, bw_71⟩
theorem lk_X11_326 : LkV RX11 326 yX11_inClass cX11_inClass 4 (some .int) 1 := ⟨⟨bw_1774, bw_1771, bw_110, ⟨by decide +kernel, by decide +kernel, by decide +kernel⟩⟩, bw_1773, bw_78⟩
theorem lk_X11_329 : LkV RX11 329 yX11_isMet cX11_isMet 4 (some .boolean) 1 := ⟨⟨bw_1778, bw_1775, bw_110, ⟨by decide +kernel, by decide +kernel, by decide +kernel⟩⟩, bw_1777, bw_79⟩
theorem lk_X11_332 : LkV RX11 332 yX11_holdIn cX11_holdIn 5 (some .int) 2 := ⟨⟨bw_1782, bw_1779, bw_110, ⟨by decide +kernel, by decide +kernel, by decide +kernel⟩⟩, bw_1781, bw_80⟩
theorem lk_X11_337 : LkV RX11 337 yX11_servedIn cX11_servedIn 4 (some .int) 1 := ⟨⟨bw_1798, bw_1795, bw_110, ⟨by decide +kernel, by decide +kernel, by decide +kernel⟩⟩, bw_1797, bw_84⟩
theorem lk_X11_340 : LkV RX11 340 yX11_harmOf cX11_harmOf 8 (some .int) 1 := ⟨⟨bw_1794, bw_1791, bw_110, ⟨by decide +kernel, by decide +kernel, by decide +kernel⟩⟩, bw_1793, bw_83⟩
theorem lk_X11_343 : LkV RX11 343 yX11_cameBy cX11_cameBy 4 (some .int) 1 := ⟨⟨bw_1765, bw_1762, bw_110, ⟨by decide +kernel, by decide +kernel, by decide +kernel⟩⟩, bw_1764, bw_76⟩
theorem lk_X11_352 : LkV RX11 352 yX11_isSound cX11_isSound 5 (some .boolean) 0 := ⟨⟨bw_1770, bw_1767, bw_110, ⟨by decide +kernel, by decide +kernel, by decide +kernel⟩⟩, bw_1769, bw_77⟩
theorem lk_X11_355 : LkV RX11 355 yX11_lack cX11_lack 5 (some .int) 0 := ⟨⟨bw_1786, bw_1783, bw_110, ⟨by decide +kernel, by decide +kernel, by decide +kernel⟩⟩, bw_1785, bw_81⟩
theorem lk_X11_358 : LkV RX11 358 yX11_allHarm cX11_allHarm 3 (some .int) 0 := ⟨⟨bw_1790, bw_1787, bw_110, ⟨by decide +kernel, by decide +kernel, by decide +kernel⟩⟩, bw_1789, bw_82⟩
theorem lk_X11_361 : LkV RX11 361 yX11_counts cX11_counts 2 (some .boolean) 0 := ⟨⟨bw_1802, bw_1799, bw_110, ⟨by decide +kernel, by decide +kernel, by decide +kernel⟩⟩, bw_1801, bw_85⟩
theorem lk_X11_364 : LkV RX11 364 yX11_bests cX11_bests 4 (some .int) 1 := ⟨⟨bw_1761, bw_1758, bw_110, ⟨by decide +kernel, by decide +kernel, by decide +kernel⟩⟩, bw_1760, bw_75⟩
theorem lk_X11_367 : LkV RX11 367 yX11_softest cX11_softest 7 (some .int) 2 := ⟨⟨bw_1818, bw_1815, bw_110, ⟨by decide +kernel, by decide +kernel, by decide +kernel⟩⟩, bw_1817, bw_86⟩
theorem lk_X11_371 : LkV RX11 371 yX11_betters cX11_betters 6 (some .boolean) 0 := ⟨⟨bw_1822, bw_1819, bw_110, ⟨by decide +kernel, by decide +kernel, by decide +kernel⟩⟩, bw_1821, bw_87⟩
theorem lk_X11_374 : LkV RX11 374 yX11_isBetter cX11_isBetter 4 (some .boolean) 2 := ⟨⟨bw_1826, bw_1823, bw_110, ⟨by decide +kernel, by decide +kernel, by decide +kernel⟩⟩, bw_1825, bw_88⟩
theorem lk_X11_377 : LkV RX11 377 yX11_swaps cX11_swaps 4 none 2 := ⟨⟨bw_1830, bw_1827, bw_110, ⟨by decide +kernel, by decide +kernel, by decide +kernel⟩⟩, bw_1829, bw_89⟩
theorem lk_X11_381 : LkV RX11 381 yX11_looks cX11_looks 2 none 0 := ⟨⟨bw_1842, bw_1839, bw_110, ⟨by decide +kernel, by decide +kernel, by decide +kernel⟩⟩, bw_1841, bw_90⟩
theorem lk_X11_384 : LkV RX11 384 yX11_listed cX11_listed 3 (some .int) 0 := ⟨⟨bw_1850, bw_1847, bw_110, ⟨by decide +kernel, by decide +kernel, by decide +kernel⟩⟩, bw_1849, bw_91⟩
theorem lk_X11_390 : LkV RX11 390 yX11_isGain cX11_isGain 6 (some .boolean) 2 := ⟨⟨bw_1874, bw_1871, bw_110, ⟨by decide +kernel, by decide +kernel, by decide +kernel⟩⟩, bw_1873, bw_92⟩
theorem lk_X11_393 : LkV RX11 393 yX11_leads cX11_leads 4 none 1 := ⟨⟨bw_1894, bw_1891, bw_110, ⟨by decide +kernel, by decide +kernel, by decide +kernel⟩⟩, bw_1893, bw_93⟩
theorem lk_X11_399 : LkV RX11 399 yX11_lacking cX11_lacking 7 (some .int) 1 := ⟨⟨bw_1906, bw_1903, bw_110, ⟨by decide +kernel, by decide +kernel, by decide +kernel⟩⟩, bw_1905, bw_94⟩
theorem lk_X11_402 : LkV RX11 402 yX11_isLow cX11_isLow 2 (some .boolean) 1 := ⟨⟨bw_1918, bw_1915, bw_110, ⟨by decide +kernel, by decide +kernel, by decide +kernel⟩⟩, bw_1917, bw_95⟩
theorem lk_X11_412 : LkV RX11 412 yX11_many cX11_many 5 (some .int) 2 := ⟨⟨bw_1939, bw_1936, bw_110, ⟨by decide +kernel, by decide +kernel, by decide +kernel⟩⟩, bw_1938, bw_96⟩
theorem lk_X1_64 : LkV RX1 64 yX1_has cX1_has 2 (some .boolean) 1 := ⟨⟨bw_632, bw_645, bw_99, ⟨by decide +kernel, by decide +kernel, by decide +kernel⟩⟩, bw_630, bw_631⟩
theorem lk_X1_68 : LkV RX1 68 yX1_wishedOnes cX1_wishedOnes 5 (some .int) 1 := ⟨⟨bw_889, bw_1203, bw_99, ⟨by decide +kernel, by decide +kernel, by decide +kernel⟩⟩, bw_887, bw_888⟩
theorem lk_X2_26 : LkS RX2 26 yJ7_fill_53178 cJ7_fill_53178 4 none 2 := ⟨⟨bw_138, bw_1065, bw_100, ⟨by decide +kernel, by decide +kernel, by decide +kernel⟩⟩, bw_137⟩
theorem lk_X2_38 : LkV RX2 38 yX2_firstClass cX2_firstClass 6 (some .int) 1 := ⟨⟨bw_1069, bw_1066, bw_106, ⟨by decide +kernel, by decide +kernel, by decide +kernel⟩⟩, bw_1068, bw_37⟩
theorem lk_X2_42 : LkV RX2 42 yX4_lackOf cX4_lackOf 4 (some .int) 1 := ⟨⟨bw_1098, bw_1095, bw_104, ⟨by decide +kernel, by decide +kernel, by decide +kernel⟩⟩, bw_1096, bw_1097⟩
theorem lk_X2_51 : LkV RX2 51 yX4_harmOf cX4_harmOf 4 (some .int) 1 := ⟨⟨bw_1082, bw_1079, bw_104, ⟨by decide +kernel, by decide +kernel, by decide +kernel⟩⟩, bw_1080, bw_1081⟩
theorem lk_X2_63 : LkV RX2 63 yX4_isSound cX4_isSound 4 (some .boolean) 1 := ⟨⟨bw_1073, bw_1070, bw_104, ⟨by decide +kernel, by decide +kernel, by decide +kernel⟩⟩, bw_1071, bw_1072⟩
theorem lk_X2_68 : LkV RX2 68 yX2_stepsByMove cX2_stepsByMove 4 (some .boolean) 0 := ⟨⟨bw_1108, bw_1105, bw_106, ⟨by decide +kernel, by decide +kernel, by decide +kernel⟩⟩, bw_1107, bw_40⟩
theorem lk_X2_72 : LkV RX2 72 yX2_stepsBySwap cX2_stepsBySwap 5 (some .boolean) 0 := ⟨⟨bw_1116, bw_1113, bw_106, ⟨by decide +kernel, by decide +kernel, by decide +kernel⟩⟩, bw_1115, bw_42⟩
theorem lk_X2_75 : LkV RX2 75 yX2_moveBetters cX2_moveBetters 6 (some .boolean) 3 := ⟨⟨bw_1112, bw_1109, bw_106, ⟨by decide +kernel, by decide +kernel, by decide +kernel⟩⟩, bw_1111, bw_41⟩
theorem lk_X3_31 : LkS RX3 31 yJ7_fill_53178 cJ7_fill_53178 4 none 2 := ⟨⟨bw_138, bw_1221, bw_100, ⟨by decide +kernel, by decide +kernel, by decide +kernel⟩⟩, bw_137⟩
theorem lk_X3_37 : LkV RX3 37 yX3_lackOfWay cX3_lackOfWay 6 (some .int) 2 := ⟨⟨bw_1234, bw_1231, bw_107, ⟨by decide +kernel, by decide +kernel, by decide +kernel⟩⟩, bw_1233, bw_47⟩
theorem lk_X4_123 : LkS RX4 123 yJ6_bitCount_0f7a4 cJ6_bitCount_0f7a4 1 (some .int) 1 := ⟨⟨bw_950, bw_948, bw_116, ⟨by decide +kernel, by decide +kernel, by decide +kernel⟩⟩, bw_949⟩
theorem lk_X4_128 : LkV RX4 128 yX4_weightOf cX4_weightOf 3 (some .int) 2 := ⟨⟨bw_1002, bw_1092, bw_104, ⟨by decide +kernel, by decide +kernel, by decide +kernel⟩⟩, bw_1000, bw_1001⟩
theorem lk_X4_134 : LkV RX4 134 yX4_leftIn cX4_leftIn 4 (some .int) 1 := ⟨⟨bw_977, bw_974, bw_104, ⟨by decide +kernel, by decide +kernel, by decide +kernel⟩⟩, bw_976, bw_25⟩
theorem lk_X4_137 : LkV RX4 137 yX4_regretIn cX4_regretIn 5 (some .int) 1 := ⟨⟨bw_981, bw_978, bw_104, ⟨by decide +kernel, by decide +kernel, by decide +kernel⟩⟩, bw_980, bw_26⟩
theorem lk_X4_143 : LkV RX4 143 yX4_isSpread cX4_isSpread 2 (some .boolean) 1 := ⟨⟨bw_998, bw_1087, bw_104, ⟨by decide +kernel, by decide +kernel, by decide +kernel⟩⟩, bw_996, bw_997⟩
theorem lk_X4_146 : LkV RX4 146 yX4_weightIn cX4_weightIn 5 (some .int) 2 := ⟨⟨bw_1091, bw_1088, bw_104, ⟨by decide +kernel, by decide +kernel, by decide +kernel⟩⟩, bw_1090, bw_39⟩
theorem lk_X4_160 : LkV RX4 160 yX4_addedHarm cX4_addedHarm 3 (some .int) 2 := ⟨⟨bw_973, bw_1094, bw_104, ⟨by decide +kernel, by decide +kernel, by decide +kernel⟩⟩, bw_971, bw_972⟩
theorem lk_X4_163 : LkV RX4 163 yX4_harmBy cX4_harmBy 7 (some .int) 2 := ⟨⟨bw_1086, bw_1083, bw_104, ⟨by decide +kernel, by decide +kernel, by decide +kernel⟩⟩, bw_1084, bw_1085⟩
theorem lk_X4_167 : LkV RX4 167 yX4_lackIn cX4_lackIn 4 (some .int) 1 := ⟨⟨bw_968, bw_1099, bw_104, ⟨by decide +kernel, by decide +kernel, by decide +kernel⟩⟩, bw_966, bw_967⟩
theorem lk_X4_170 : LkV RX4 170 yX4_mayStand cX4_mayStand 3 (some .boolean) 2 := ⟨⟨bw_947, bw_1074, bw_104, ⟨by decide +kernel, by decide +kernel, by decide +kernel⟩⟩, bw_945, bw_946⟩
theorem lk_X4_173 : LkV RX4 173 yX4_isWhole cX4_isWhole 4 (some .boolean) 2 := ⟨⟨bw_1078, bw_1075, bw_104, ⟨by decide +kernel, by decide +kernel, by decide +kernel⟩⟩, bw_1077, bw_38⟩
theorem lk_X4_176 : LkV RX4 176 yX4_lackOf cX4_lackOf 4 (some .int) 1 := ⟨⟨bw_1098, bw_1133, bw_104, ⟨by decide +kernel, by decide +kernel, by decide +kernel⟩⟩, bw_1096, bw_1097⟩
theorem lk_X4_180 : LkV RX4 180 yX4_isSound cX4_isSound 4 (some .boolean) 1 := ⟨⟨bw_1073, bw_1134, bw_104, ⟨by decide +kernel, by decide +kernel, by decide +kernel⟩⟩, bw_1071, bw_1072⟩
theorem lk_X4_190 : LkV RX4 190 yX4_hasNoPair cX4_hasNoPair 4 (some .boolean) 1 := ⟨⟨bw_957, bw_954, bw_104, ⟨by decide +kernel, by decide +kernel, by decide +kernel⟩⟩, bw_956, bw_23⟩
theorem lk_X4_193 : LkV RX4 193 yX4_fitsStatements cX4_fitsStatements 4 (some .boolean) 1 := ⟨⟨bw_961, bw_958, bw_104, ⟨by decide +kernel, by decide +kernel, by decide +kernel⟩⟩, bw_960, bw_24⟩
theorem lk_X4_202 : LkS RX4 202 yX4_holdsTwo cX4_holdsTwo 3 (some .boolean) 2 := ⟨⟨bw_964, bw_962, bw_104, ⟨by decide +kernel, by decide +kernel, by decide +kernel⟩⟩, bw_963⟩
theorem lk_X4_38 : LkV RX4 38 yX7_twinsHow cX7_twinsHow 3 (some .int) 0 := ⟨⟨bw_848, bw_845, bw_109, ⟨by decide +kernel, by decide +kernel, by decide +kernel⟩⟩, bw_846, bw_847⟩
theorem lk_X4_46 : LkV RX4 46 yX5_learn cX5_learn 3 none 1 := ⟨⟨bw_852, bw_849, bw_101, ⟨by decide +kernel, by decide +kernel, by decide +kernel⟩⟩, bw_850, bw_851⟩
theorem lk_X4_52 : LkV RX4 52 yX7_uses cX7_uses 3 (some .boolean) 1 := ⟨⟨bw_857, bw_854, bw_109, ⟨by decide +kernel, by decide +kernel, by decide +kernel⟩⟩, bw_855, bw_856⟩
theorem lk_X4_61 : LkV RX4 61 yX4_traitOf cX4_traitOf 3 (some .int) 2 := ⟨⟨bw_865, bw_862, bw_104, ⟨by decide +kernel, by decide +kernel, by decide +kernel⟩⟩, bw_864, bw_17⟩
theorem lk_X4_65 : LkV RX4 65 yX1_wishedOnes cX1_wishedOnes 5 (some .int) 1 := ⟨⟨bw_889, bw_886, bw_99, ⟨by decide +kernel, by decide +kernel, by decide +kernel⟩⟩, bw_887, bw_888⟩
theorem lk_X4_70 : LkV RX4 70 yX4_holders cX4_holders 4 (some .int) 1 := ⟨⟨bw_893, bw_890, bw_104, ⟨by decide +kernel, by decide +kernel, by decide +kernel⟩⟩, bw_892, bw_18⟩
theorem lk_X4_79 : LkV RX4 79 yX5_level cX5_level 4 (some .int) 2 := ⟨⟨bw_869, bw_866, bw_101, ⟨by decide +kernel, by decide +kernel, by decide +kernel⟩⟩, bw_867, bw_868⟩
theorem lk_X4_85 : LkV RX4 85 yX1_toldWishes cX1_toldWishes 4 (some .int) 1 := ⟨⟨bw_881, bw_878, bw_99, ⟨by decide +kernel, by decide +kernel, by decide +kernel⟩⟩, bw_879, bw_880⟩
theorem lk_X4_88 : LkV RX4 88 yX1_naming cX1_naming 4 (some .int) 1 := ⟨⟨bw_885, bw_882, bw_99, ⟨by decide +kernel, by decide +kernel, by decide +kernel⟩⟩, bw_883, bw_884⟩
theorem lk_X4_91 : LkV RX4 91 yX4_meets cX4_meets 5 (some .boolean) 2 := ⟨⟨bw_897, bw_894, bw_104, ⟨by decide +kernel, by decide +kernel, by decide +kernel⟩⟩, bw_895, bw_896⟩
theorem lk_X4_98 : LkV RX4 98 yX4_meetsTerm cX4_meetsTerm 7 (some .boolean) 2 := ⟨⟨bw_901, bw_898, bw_104, ⟨by decide +kernel, by decide +kernel, by decide +kernel⟩⟩, bw_900, bw_19⟩
theorem lk_X5_34 : LkS RX5 34 yJ7_fill_53178 cJ7_fill_53178 4 none 2 := ⟨⟨bw_138, bw_853, bw_100, ⟨by decide +kernel, by decide +kernel, by decide +kernel⟩⟩, bw_137⟩
theorem lk_X5_40 : LkV RX5 40 yX5_scale cX5_scale 9 (some .int) 3 := ⟨⟨bw_877, bw_874, bw_101, ⟨by decide +kernel, by decide +kernel, by decide +kernel⟩⟩, bw_875, bw_876⟩
theorem lk_X5_44 : LkV RX5 44 yX5_overall cX5_overall 7 (some .int) 2 := ⟨⟨bw_873, bw_870, bw_101, ⟨by decide +kernel, by decide +kernel, by decide +kernel⟩⟩, bw_871, bw_872⟩
theorem lk_X6_100 : LkV RX6 100 yX6_readHow cX6_readHow 2 (some .boolean) 1 := ⟨⟨bw_823, bw_820, bw_103, ⟨by decide +kernel, by decide +kernel, by decide +kernel⟩⟩, bw_822, bw_14⟩
theorem lk_X6_107 : LkV RX6 107 yX6_readTerm cX6_readTerm 3 (some .boolean) 1 := ⟨⟨bw_803, bw_800, bw_103, ⟨by decide +kernel, by decide +kernel, by decide +kernel⟩⟩, bw_802, bw_9⟩
theorem lk_X6_23 : LkV RX6 23 yX7_clear cX7_clear 1 none 0 := ⟨⟨bw_699, bw_696, bw_109, ⟨by decide +kernel, by decide +kernel, by decide +kernel⟩⟩, bw_697, bw_698⟩
theorem lk_X6_31 : LkV RX6 31 yX9_scan cX9_scan 4 none 0 := ⟨⟨bw_704, bw_701, bw_102, ⟨by decide +kernel, by decide +kernel, by decide +kernel⟩⟩, bw_702, bw_703⟩
theorem lk_X6_39 : LkV RX6 39 yX6_next cX6_next 1 none 0 := ⟨⟨bw_782, bw_779, bw_103, ⟨by decide +kernel, by decide +kernel, by decide +kernel⟩⟩, bw_781, bw_4⟩
theorem lk_X6_45 : LkV RX6 45 yX6_readStatement cX6_readStatement 3 (some .boolean) 1 := ⟨⟨bw_786, bw_783, bw_103, ⟨by decide +kernel, by decide +kernel, by decide +kernel⟩⟩, bw_785, bw_5⟩
theorem lk_X6_68 : LkSN RX6 68 yX10_within "ClassMaker" cX10_within 3 (some .boolean) 3 := ⟨bw_620, rfl, bw_98, ⟨by decide +kernel, by decide +kernel, by decide +kernel⟩, bw_619⟩
theorem lk_X6_72 : LkV RX6 72 yX6_refuse cX6_refuse 2 (some .boolean) 1 := ⟨⟨bw_791, bw_788, bw_103, ⟨by decide +kernel, by decide +kernel, by decide +kernel⟩⟩, bw_790, bw_6⟩
theorem lk_X6_81 : LkV RX6 81 yX6_readBody cX6_readBody 3 (some .boolean) 2 := ⟨⟨bw_795, bw_792, bw_103, ⟨by decide +kernel, by decide +kernel, by decide +kernel⟩⟩, bw_794, bw_7⟩
theorem lk_X6_85 : LkV RX6 85 yX6_readCode cX6_readCode 2 (some .boolean) 1 := ⟨⟨bw_807, bw_804, bw_103, ⟨by decide +kernel, by decide +kernel, by decide +kernel⟩⟩, bw_806, bw_10⟩
theorem lk_X6_88 : LkV RX6 88 yX6_readTerms cX6_readTerms 3 (some .boolean) 1 := ⟨⟨bw_799, bw_796, bw_103, ⟨by decide +kernel, by decide +kernel, by decide +kernel⟩⟩, bw_798, bw_8⟩
theorem lk_X6_91 : LkV RX6 91 yX6_readWeight cX6_readWeight 2 (some .boolean) 1 := ⟨⟨bw_811, bw_808, bw_103, ⟨by decide +kernel, by decide +kernel, by decide +kernel⟩⟩, bw_810, bw_11⟩
theorem lk_X6_94 : LkV RX6 94 yX6_readTrait cX6_readTrait 2 (some .boolean) 1 := ⟨⟨bw_819, bw_816, bw_103, ⟨by decide +kernel, by decide +kernel, by decide +kernel⟩⟩, bw_818, bw_13⟩
theorem lk_X6_97 : LkV RX6 97 yX6_readNumber cX6_readNumber 2 (some .boolean) 1 := ⟨⟨bw_815, bw_812, bw_103, ⟨by decide +kernel, by decide +kernel, by decide +kernel⟩⟩, bw_814, bw_12⟩
theorem lk_X7_41 : LkS RX7 41 yJ7_fill_53178 cJ7_fill_53178 4 none 2 := ⟨⟨bw_138, bw_700, bw_100, ⟨by decide +kernel, by decide +kernel, by decide +kernel⟩⟩, bw_137⟩
theorem lk_X7_47 : LkV RX7 47 yX7_termsUse cX7_termsUse 4 (some .boolean) 2 := ⟨⟨bw_861, bw_858, bw_109, ⟨by decide +kernel, by decide +kernel, by decide +kernel⟩⟩, bw_860, bw_16⟩
theorem lk_X8_103 : LkV RX8 103 yX4_mayStand cX4_mayStand 3 (some .boolean) 2 := ⟨⟨bw_947, bw_944, bw_104, ⟨by decide +kernel, by decide +kernel, by decide +kernel⟩⟩, bw_945, bw_946⟩
theorem lk_X8_109 : LkV RX8 109 yX4_lackIn cX4_lackIn 4 (some .int) 1 := ⟨⟨bw_968, bw_965, bw_104, ⟨by decide +kernel, by decide +kernel, by decide +kernel⟩⟩, bw_966, bw_967⟩
theorem lk_X8_119 : LkV RX8 119 yX4_addedHarm cX4_addedHarm 3 (some .int) 2 := ⟨⟨bw_973, bw_970, bw_104, ⟨by decide +kernel, by decide +kernel, by decide +kernel⟩⟩, bw_971, bw_972⟩
theorem lk_X8_123 : LkV RX8 123 yX4_joins cX4_joins 3 (some .boolean) 2 := ⟨⟨bw_989, bw_986, bw_104, ⟨by decide +kernel, by decide +kernel, by decide +kernel⟩⟩, bw_987, bw_988⟩
theorem lk_X8_129 : LkV RX8 129 yX4_isSpread cX4_isSpread 2 (some .boolean) 1 := ⟨⟨bw_998, bw_995, bw_104, ⟨by decide +kernel, by decide +kernel, by decide +kernel⟩⟩, bw_996, bw_997⟩
theorem lk_X8_136 : LkV RX8 136 yX4_weightOf cX4_weightOf 3 (some .int) 2 := ⟨⟨bw_1002, bw_999, bw_104, ⟨by decide +kernel, by decide +kernel, by decide +kernel⟩⟩, bw_1000, bw_1001⟩
theorem lk_X8_139 : LkV RX8 139 yX8_weigh cX8_weigh 5 none 0 := ⟨⟨bw_1009, bw_1006, bw_105, ⟨by decide +kernel, by decide +kernel, by decide +kernel⟩⟩, bw_1008, bw_29⟩
theorem lk_X8_142 : LkV RX8 142 yX8_isPerfect cX8_isPerfect 1 (some .boolean) 0 := ⟨⟨bw_1024, bw_1021, bw_105, ⟨by decide +kernel, by decide +kernel, by decide +kernel⟩⟩, bw_1023, bw_31⟩
theorem lk_X8_146 : LkV RX8 146 yX8_isRepeat cX8_isRepeat 3 (some .boolean) 1 := ⟨⟨bw_1028, bw_1025, bw_105, ⟨by decide +kernel, by decide +kernel, by decide +kernel⟩⟩, bw_1027, bw_32⟩
theorem lk_X8_149 : LkV RX8 149 yX8_mayJoin cX8_mayJoin 4 (some .boolean) 2 := ⟨⟨bw_1032, bw_1029, bw_105, ⟨by decide +kernel, by decide +kernel, by decide +kernel⟩⟩, bw_1031, bw_33⟩
theorem lk_X8_152 : LkV RX8 152 yX8_put cX8_put 5 none 3 := ⟨⟨bw_1040, bw_1037, bw_105, ⟨by decide +kernel, by decide +kernel, by decide +kernel⟩⟩, bw_1039, bw_35⟩
theorem lk_X8_162 : LkV RX8 162 yX8_movesOf cX8_movesOf 3 (some .int) 2 := ⟨⟨bw_1036, bw_1033, bw_105, ⟨by decide +kernel, by decide +kernel, by decide +kernel⟩⟩, bw_1035, bw_34⟩
theorem lk_X8_165 : LkV RX8 165 yX8_spreadOf cX8_spreadOf 5 (some .int) 1 := ⟨⟨bw_1013, bw_1010, bw_105, ⟨by decide +kernel, by decide +kernel, by decide +kernel⟩⟩, bw_1012, bw_30⟩
theorem lk_X8_66 : LkV RX8 66 yX8_readSets cX8_readSets 4 none 0 := ⟨⟨bw_943, bw_940, bw_105, ⟨by decide +kernel, by decide +kernel, by decide +kernel⟩⟩, bw_942, bw_22⟩
theorem lk_X8_69 : LkV RX8 69 yX8_readTwins cX8_readTwins 3 none 0 := ⟨⟨bw_985, bw_982, bw_105, ⟨by decide +kernel, by decide +kernel, by decide +kernel⟩⟩, bw_984, bw_27⟩
theorem lk_X8_72 : LkV RX8 72 yX8_readSpreads cX8_readSpreads 3 none 0 := ⟨⟨bw_993, bw_990, bw_105, ⟨by decide +kernel, by decide +kernel, by decide +kernel⟩⟩, bw_992, bw_28⟩
theorem lk_X8_75 : LkS RX8 75 yJ7_fill_53178 cJ7_fill_53178 4 none 2 := ⟨⟨bw_138, bw_994, bw_100, ⟨by decide +kernel, by decide +kernel, by decide +kernel⟩⟩, bw_137⟩
theorem lk_X8_90 : LkS RX8 90 yX8_assign cX8_assign 3 none 2 := ⟨⟨bw_1005, bw_1003, bw_105, ⟨by decide +kernel, by decide +kernel, by decide +kernel⟩⟩, bw_1004⟩
theorem lk_X8_94 : LkV RX8 94 yX8_seatOf cX8_seatOf 3 (some .int) 1 := ⟨⟨bw_1048, bw_1361, bw_105, ⟨by decide +kernel, by decide +kernel, by decide +kernel⟩⟩, bw_1046, bw_1047⟩
theorem lk_X9_32 : LkV RX9 32 yX9_scanToken cX9_scanToken 4 (some .int) 1 := ⟨⟨bw_708, bw_705, bw_102, ⟨by decide +kernel, by decide +kernel, by decide +kernel⟩⟩, bw_707, bw_0⟩
theorem lk_X9_42 : LkV RX9 42 yX9_add cX9_add 4 none 3 := ⟨⟨bw_768, bw_765, bw_102, ⟨by decide +kernel, by decide +kernel, by decide +kernel⟩⟩, bw_767, bw_2⟩
theorem lk_X9_46 : LkS RX9 46 yX9_isLetter cX9_isLetter 1 (some .boolean) 1 := ⟨⟨bw_711, bw_709, bw_102, ⟨by decide +kernel, by decide +kernel, by decide +kernel⟩⟩, bw_710⟩
theorem lk_X9_50 : LkV RX9 50 yX9_wordCode cX9_wordCode 7 (some .int) 2 := ⟨⟨bw_715, bw_712, bw_102, ⟨by decide +kernel, by decide +kernel, by decide +kernel⟩⟩, bw_714, bw_1⟩
theorem lk_X9_53 : LkS RX9 53 yX9_isDigit cX9_isDigit 1 (some .boolean) 1 := ⟨⟨bw_771, bw_769, bw_102, ⟨by decide +kernel, by decide +kernel, by decide +kernel⟩⟩, bw_770⟩
theorem lk_X9_56 : LkV RX9 56 yX9_scanNumber cX9_scanNumber 4 (some .int) 1 := ⟨⟨bw_775, bw_772, bw_102, ⟨by decide +kernel, by decide +kernel, by decide +kernel⟩⟩, bw_774, bw_3⟩
theorem mw_X10_395 : Cond.methodLink RX10 395 Lib.Math.min.name ∈ BW ∧ Cond.static Lib.Math.min.name ∈ BW ∧ Cond.initialized "java/lang/Math" ∈ BW ∧ Cond.code Lib.Math.min.name Lib.Math.min.code 2 (some .int) ∈ BW := ⟨bw_1262, bw_1015, bw_115, bw_1016⟩
theorem mw_X1_72 : Cond.methodLink RX1 72 Lib.Math.min.name ∈ BW ∧ Cond.static Lib.Math.min.name ∈ BW ∧ Cond.initialized "java/lang/Math" ∈ BW ∧ Cond.code Lib.Math.min.name Lib.Math.min.code 2 (some .int) ∈ BW := ⟨bw_1257, bw_1015, bw_115, bw_1016⟩
theorem mw_X3_50 : Cond.methodLink RX3 50 Lib.Math.max.name ∈ BW ∧ Cond.static Lib.Math.max.name ∈ BW ∧ Cond.initialized "java/lang/Math" ∈ BW ∧ Cond.code Lib.Math.max.name Lib.Math.max.code 2 (some .int) ∈ BW := ⟨bw_1236, bw_777, bw_115, bw_778⟩
theorem mw_X4_152 : Cond.methodLink RX4 152 Lib.Math.min.name ∈ BW ∧ Cond.static Lib.Math.min.name ∈ BW ∧ Cond.initialized "java/lang/Math" ∈ BW ∧ Cond.code Lib.Math.min.name Lib.Math.min.code 2 (some .int) ∈ BW := ⟨bw_1093, bw_1015, bw_115, bw_1016⟩
theorem mw_X4_157 : Cond.methodLink RX4 157 Lib.Math.max.name ∈ BW ∧ Cond.static Lib.Math.max.name ∈ BW ∧ Cond.initialized "java/lang/Math" ∈ BW ∧ Cond.code Lib.Math.max.name Lib.Math.max.code 2 (some .int) ∈ BW := ⟨bw_969, bw_777, bw_115, bw_778⟩
theorem mw_X8_174 : Cond.methodLink RX8 174 Lib.Math.min.name ∈ BW ∧ Cond.static Lib.Math.min.name ∈ BW ∧ Cond.initialized "java/lang/Math" ∈ BW ∧ Cond.code Lib.Math.min.name Lib.Math.min.code 2 (some .int) ∈ BW := ⟨bw_1014, bw_1015, bw_115, bw_1016⟩
theorem mw_X8_179 : Cond.methodLink RX8 179 Lib.Math.max.name ∈ BW ∧ Cond.static Lib.Math.max.name ∈ BW ∧ Cond.initialized "java/lang/Math" ∈ BW ∧ Cond.code Lib.Math.max.name Lib.Math.max.code 2 (some .int) ∈ BW := ⟨bw_1017, bw_777, bw_115, bw_778⟩
theorem mw_X9_36 : Cond.methodLink RX9 36 Lib.Math.max.name ∈ BW ∧ Cond.static Lib.Math.max.name ∈ BW ∧ Cond.initialized "java/lang/Math" ∈ BW ∧ Cond.code Lib.Math.max.name Lib.Math.max.code 2 (some .int) ∈ BW := ⟨bw_776, bw_777, bw_115, bw_778⟩
theorem sw_X11_235 : LkV RX11 235 yJ0_length_8abf5 cJ0_length_8abf5 1 (some .int) 0 := ⟨⟨bw_720, bw_1677, bw_111, ⟨by decide +kernel, by decide +kernel, by decide +kernel⟩⟩, bw_718, bw_719⟩
theorem sw_X11_241 : LkV RX11 241 yJ0_charAt_5068e cJ0_charAt_5068e 2 (some .char) 1 := ⟨⟨bw_730, bw_1678, bw_111, ⟨by decide +kernel, by decide +kernel, by decide +kernel⟩⟩, bw_728, bw_729⟩
theorem sw_X9_61 : LkV RX9 61 yJ0_length_8abf5 cJ0_length_8abf5 1 (some .int) 0 := ⟨⟨bw_720, bw_717, bw_111, ⟨by decide +kernel, by decide +kernel, by decide +kernel⟩⟩, bw_718, bw_719⟩
theorem sw_X9_66 : LkV RX9 66 yJ0_charAt_5068e cJ0_charAt_5068e 2 (some .char) 1 := ⟨⟨bw_730, bw_727, bw_111, ⟨by decide +kernel, by decide +kernel, by decide +kernel⟩⟩, bw_728, bw_729⟩
theorem fS_0_38 : Cond.fieldLink RJ0 38 "java/lang/String" "COMPACT_STRINGS" "Z" ∈ BW := bw_725
theorem fS_0_1053 : Cond.fieldLink RJ0 1053 "jdk/internal/util/Preconditions" "SIOOBE_FORMATTER" "Ljava/util/function/BiFunction;" ∈ BW := bw_741
theorem fS_0_9 : Cond.fieldLink RJ0 9 "java/lang/String" "value" "[B" ∈ BW := bw_1961
theorem fS_0_15 : Cond.fieldLink RJ0 15 "java/lang/String" "coder" "B" ∈ BW := bw_1962
theorem lS_0_335 : LkV RJ0 335 yJ0_coder_7d493 cJ0_coder_7d493 1 (some .byte) 0 := ⟨⟨bw_724, bw_721, bw_111, ⟨by decide +kernel, by decide +kernel, by decide +kernel⟩⟩, bw_722, bw_723⟩
theorem lS_0_492 : LkV RJ0 492 yJ0_isLatin1_aae02 cJ0_isLatin1_aae02 1 (some .boolean) 0 := ⟨⟨bw_734, bw_731, bw_111, ⟨by decide +kernel, by decide +kernel, by decide +kernel⟩⟩, bw_732, bw_733⟩
theorem lS_0_495 : LkS RJ0 495 yJ1_charAt_3b067 cJ1_charAt_3b067 2 (some .char) 2 := ⟨⟨bw_737, bw_735, bw_112, ⟨by decide +kernel, by decide +kernel, by decide +kernel⟩⟩, bw_736⟩
theorem lS_1_9 : LkS RJ1 9 yJ0_checkIndex_df160 cJ0_checkIndex_df160 2 none 2 := ⟨⟨bw_740, bw_738, bw_111, ⟨by decide +kernel, by decide +kernel, by decide +kernel⟩⟩, bw_739⟩
theorem lS_0_1059 : LkS RJ0 1059 yJ3_checkIndex_8e157 cJ3_checkIndex_8e157 3 (some .int) 3 := ⟨⟨bw_745, bw_743, bw_113, ⟨by decide +kernel, by decide +kernel, by decide +kernel⟩⟩, bw_744⟩
