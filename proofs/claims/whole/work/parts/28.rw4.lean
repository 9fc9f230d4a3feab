/-! ===== THE ROWS OF METHODS 288 TO 381 ===== -/
theorem xd_288 : xDec (prog_25_method_59_code) xk_288 := xDecW_of (base := 0) (Nat.zero_le _) (by decide +kernel)
theorem xw_288 : ∀ w ∈ xk_288.flatMap (xWd xTab 288), w ∈ tTg xTab := xWB_of (qs := []) (by decide +kernel)
theorem xs_288 : xk_288.all (xSd xTab xnM 288) = true := by decide +kernel
theorem xc_288 : ∀ e ∈ xk_288, xInv e = true → xCat xTab 288 e.1 := fun _ _ _ => xCat_nil rfl rfl
theorem xh_288 : ∀ e ∈ xk_288, xThr e = true → xLk2 xTab 288 e := xThr_none (by decide +kernel)
theorem xd_289 : xDec (prog_10_method_6_code) xk_289 := xDecW_of (base := 0) (Nat.zero_le _) (by decide +kernel)
theorem xw_289 : ∀ w ∈ xk_289.flatMap (xWd xTab 289), w ∈ tTg xTab := xWB_of (qs := [(9, 57), (9, 59), (10, 46), (10, 47), (9, 58), (9, 60), (10, 46), (10, 47), (10, 49), (10, 50), (9, 63), (9, 64), (10, 58), (10, 59), (9, 61), (10, 61), (10, 63), (0, 3), (10, 65), (10, 66), (9, 61), (10, 61), (10, 63), (0, 3), (10, 58), (10, 59), (9, 61), (10, 61), (10, 63), (0, 3), (10, 65), (10, 66), (9, 61), (10, 61), (10, 63), (0, 3), (9, 64), (9, 63), (9, 64), (9, 62), (9, 62), (9, 64), (9, 64)]) (by decide +kernel)
theorem xs_289 : xk_289.all (xSd xTab xnM 289) = true := by decide +kernel
theorem xc_289 : ∀ e ∈ xk_289, xInv e = true → xCat xTab 289 e.1 := fun _ _ _ => xCat_nil rfl rfl
theorem xh_289 : ∀ e ∈ xk_289, xThr e = true → xLk2 xTab 289 e := xThr_none (by decide +kernel)
theorem xd_290 : xDec (prog_11_method_9_code) xk_290 := xDecW_of (base := 0) (Nat.zero_le _) (by decide +kernel)
theorem xw_290 : ∀ w ∈ xk_290.flatMap (xWd xTab 290), w ∈ tTg xTab := xWB_of (qs := [(12, 196), (10, 163), (10, 164), (8, 124), (8, 150)]) (by decide +kernel)
theorem xs_290 : xk_290.all (xSd xTab xnM 290) = true := by decide +kernel
theorem xc_290 : ∀ e ∈ xk_290, xInv e = true → xCat xTab 290 e.1 := fun _ _ _ => xCat_nil rfl rfl
theorem xh_290 : ∀ e ∈ xk_290, xThr e = true → xLk2 xTab 290 e := xThr_none (by decide +kernel)
theorem xd_291 : xDec (prog_25_method_69_code) xk_291 := xDecW_of (base := 0) (Nat.zero_le _) (by decide +kernel)
theorem xw_291 : ∀ w ∈ xk_291.flatMap (xWd xTab 291), w ∈ tTg xTab := xWB_of (qs := []) (by decide +kernel)
theorem xs_291 : xk_291.all (xSd xTab xnM 291) = true := by decide +kernel
theorem xc_291 : ∀ e ∈ xk_291, xInv e = true → xCat xTab 291 e.1 := fun _ _ _ => xCat_nil rfl rfl
theorem xh_291 : ∀ e ∈ xk_291, xThr e = true → xLk2 xTab 291 e := xThr_none (by decide +kernel)
theorem xd_292 : xDec (prog_25_method_65_code) xk_292 := xDecW_of (base := 0) (Nat.zero_le _) (by decide +kernel)
theorem xw_292 : ∀ w ∈ xk_292.flatMap (xWd xTab 292), w ∈ tTg xTab := xWB_of (qs := []) (by decide +kernel)
theorem xs_292 : xk_292.all (xSd xTab xnM 292) = true := by decide +kernel
theorem xc_292 : ∀ e ∈ xk_292, xInv e = true → xCat xTab 292 e.1 := fun _ _ _ => xCat_nil rfl rfl
theorem xh_292 : ∀ e ∈ xk_292, xThr e = true → xLk2 xTab 292 e := xThr_none (by decide +kernel)
theorem xd_293 : xDec (prog_8_method_6_code) xk_293 := xDecW_of (base := 0) (Nat.zero_le _) (by decide +kernel)
theorem xw_293 : ∀ w ∈ xk_293.flatMap (xWd xTab 293), w ∈ tTg xTab := xWB_of (qs := [(8, 114), (8, 116), (8, 116)]) (by decide +kernel)
theorem xs_293 : xk_293.all (xSd xTab xnM 293) = true := by decide +kernel
theorem xc_293 : ∀ e ∈ xk_293, xInv e = true → xCat xTab 293 e.1 := fun _ _ _ => xCat_nil rfl rfl
theorem xh_293 : ∀ e ∈ xk_293, xThr e = true → xLk2 xTab 293 e := xThr_none (by decide +kernel)
theorem xd_294 : xDec (prog_8_method_5_code) xk_294 := xDecW_of (base := 0) (Nat.zero_le _) (by decide +kernel)
theorem xw_294 : ∀ w ∈ xk_294.flatMap (xWd xTab 294), w ∈ tTg xTab := xWB_of (qs := [(8, 114), (8, 116)]) (by decide +kernel)
theorem xs_294 : xk_294.all (xSd xTab xnM 294) = true := by decide +kernel
theorem xc_294 : ∀ e ∈ xk_294, xInv e = true → xCat xTab 294 e.1 := fun _ _ _ => xCat_nil rfl rfl
theorem xh_294 : ∀ e ∈ xk_294, xThr e = true → xLk2 xTab 294 e := xThr_none (by decide +kernel)
theorem xd_295 : xDec (prog_8_method_4_code) xk_295 := xDecW_of (base := 0) (Nat.zero_le _) (by decide +kernel)
theorem xw_295 : ∀ w ∈ xk_295.flatMap (xWd xTab 295), w ∈ tTg xTab := xWB_of (qs := [(8, 114), (8, 116)]) (by decide +kernel)
theorem xs_295 : xk_295.all (xSd xTab xnM 295) = true := by decide +kernel
theorem xc_295 : ∀ e ∈ xk_295, xInv e = true → xCat xTab 295 e.1 := fun _ _ _ => xCat_nil rfl rfl
theorem xh_295 : ∀ e ∈ xk_295, xThr e = true → xLk2 xTab 295 e := xThr_none (by decide +kernel)
theorem xd_296 : xDec (prog_8_method_2_code) xk_296 := xDecW_of (base := 0) (Nat.zero_le _) (by decide +kernel)
theorem xw_296 : ∀ w ∈ xk_296.flatMap (xWd xTab 296), w ∈ tTg xTab := xWB_of (qs := [(8, 112), (8, 112), (8, 114), (8, 114), (8, 116), (8, 116), (10, 197), (10, 192), (10, 191), (8, 14)]) (by decide +kernel)
theorem xs_296 : xk_296.all (xSd xTab xnM 296) = true := by decide +kernel
theorem xc_296 : ∀ e ∈ xk_296, xInv e = true → xCat xTab 296 e.1 := fun _ _ _ => xCat_nil rfl rfl
theorem xh_296 : ∀ e ∈ xk_296, xThr e = true → xLk2 xTab 296 e := xThr_none (by decide +kernel)
theorem xd_297 : xDec (prog_12_method_5_code) xk_297 := xDecW_of (base := 0) (Nat.zero_le _) (by decide +kernel)
theorem xw_297 : ∀ w ∈ xk_297.flatMap (xWd xTab 297), w ∈ tTg xTab := xWB_of (qs := [(8, 70), (8, 69), (10, 227), (10, 228), (8, 70), (8, 69), (10, 227), (10, 228), (8, 69), (8, 72), (8, 73), (8, 74), (8, 72), (8, 73), (8, 70), (8, 74), (8, 70), (8, 75)]) (by decide +kernel)
theorem xs_297 : xk_297.all (xSd xTab xnM 297) = true := by decide +kernel
theorem xc_297 : ∀ e ∈ xk_297, xInv e = true → xCat xTab 297 e.1 := fun _ _ _ => xCat_nil rfl rfl
theorem xh_297 : ∀ e ∈ xk_297, xThr e = true → xLk2 xTab 297 e := xThr_none (by decide +kernel)
theorem xd_298 : xDec (prog_12_method_8_code) xk_298 := xDecW_of (base := 0) (Nat.zero_le _) (by decide +kernel)
theorem xw_298 : ∀ w ∈ xk_298.flatMap (xWd xTab 298), w ∈ tTg xTab := xWB_of (qs := [(8, 72), (8, 75)]) (by decide +kernel)
theorem xs_298 : xk_298.all (xSd xTab xnM 298) = true := by decide +kernel
theorem xc_298 : ∀ e ∈ xk_298, xInv e = true → xCat xTab 298 e.1 := fun _ _ _ => xCat_nil rfl rfl
theorem xh_298 : ∀ e ∈ xk_298, xThr e = true → xLk2 xTab 298 e := xThr_none (by decide +kernel)
theorem xd_299 : xDec (prog_3_method_3_code) xk_299 := xDecW_of (base := 0) (Nat.zero_le _) (by decide +kernel)
theorem xw_299 : ∀ w ∈ xk_299.flatMap (xWd xTab 299), w ∈ tTg xTab := xWB_of (qs := [(9, 19), (10, 239), (11, 0), (11, 1), (8, 127), (11, 51), (11, 53), (0, 9), (9, 19), (10, 239), (11, 0), (11, 1), (8, 158), (11, 145), (11, 147), (0, 11), (9, 19), (11, 69), (11, 70), (11, 71), (11, 158), (11, 160), (0, 12), (9, 19), (11, 69), (11, 70), (11, 71), (11, 167), (11, 169), (0, 13), (9, 19), (11, 69), (11, 70), (11, 71), (11, 173), (11, 175), (0, 14), (11, 180), (11, 182), (0, 15)]) (by decide +kernel)
theorem xs_299 : xk_299.all (xSd xTab xnM 299) = true := by decide +kernel
theorem xc_299 : ∀ e ∈ xk_299, xInv e = true → xCat xTab 299 e.1 := fun _ _ _ => xCat_nil rfl rfl
theorem xh_299 : ∀ e ∈ xk_299, xThr e = true → xLk2 xTab 299 e := xThr_none (by decide +kernel)
theorem xd_300 : xDec (prog_12_method_12_code) xk_300 := xDecW_of (base := 0) (Nat.zero_le _) (by decide +kernel)
theorem xw_300 : ∀ w ∈ xk_300.flatMap (xWd xTab 300), w ∈ tTg xTab := xWB_of (qs := [(11, 192), (11, 193), (11, 194), (11, 67), (11, 56), (11, 57)]) (by decide +kernel)
theorem xs_300 : xk_300.all (xSd xTab xnM 300) = true := by decide +kernel
theorem xc_300 : ∀ e ∈ xk_300, xInv e = true → xCat xTab 300 e.1 := fun _ _ _ => xCat_nil rfl rfl
theorem xh_300 : ∀ e ∈ xk_300, xThr e = true → xLk2 xTab 300 e := xThr_none (by decide +kernel)
theorem xd_301 : xDec (prog_14_method_19_code) xk_301 := xDecW_of (base := 0) (Nat.zero_le _) (by decide +kernel)
theorem xw_301 : ∀ w ∈ xk_301.flatMap (xWd xTab 301), w ∈ tTg xTab := xWB_of (qs := [(14, 203), (14, 201), (14, 195), (14, 203)]) (by decide +kernel)
theorem xs_301 : xk_301.all (xSd xTab xnM 301) = true := by decide +kernel
theorem xc_301 : ∀ e ∈ xk_301, xInv e = true → xCat xTab 301 e.1 := fun _ _ _ => xCat_nil rfl rfl
theorem xh_301 : ∀ e ∈ xk_301, xThr e = true → xLk2 xTab 301 e := xThr_none (by decide +kernel)
theorem xd_302 : xDec (prog_14_method_22_code) xk_302 := xDecW_of (base := 0) (Nat.zero_le _) (by decide +kernel)
theorem xw_302 : ∀ w ∈ xk_302.flatMap (xWd xTab 302), w ∈ tTg xTab := xWB_of (qs := [(15, 67), (15, 69), (2, 11), (14, 205), (14, 204), (15, 71), (15, 73), (2, 12), (15, 48), (15, 49), (14, 205), (15, 88), (15, 88), (14, 205), (15, 71), (15, 73), (2, 12), (15, 89), (14, 205)]) (by decide +kernel)
theorem xs_302 : xk_302.all (xSd xTab xnM 302) = true := by decide +kernel
theorem xc_302 : ∀ e ∈ xk_302, xInv e = true → xCat xTab 302 e.1 := fun _ _ _ => xCat_nil rfl rfl
theorem xh_302 : ∀ e ∈ xk_302, xThr e = true → xLk2 xTab 302 e := xThr_none (by decide +kernel)
theorem xd_303 : xDec (prog_14_method_25_code) xk_303 := xDecW_of (base := 0) (Nat.zero_le _) (by decide +kernel)
theorem xw_303 : ∀ w ∈ xk_303.flatMap (xWd xTab 303), w ∈ tTg xTab := xWB_of (qs := [(14, 206), (15, 96), (15, 98), (3, 1), (14, 205), (14, 204), (14, 205), (15, 71), (15, 73), (2, 12), (15, 48), (15, 49), (14, 205), (14, 205), (15, 71), (15, 73), (2, 12), (14, 205), (14, 205), (14, 205), (14, 205), (15, 75), (15, 77), (2, 13)]) (by decide +kernel)
theorem xs_303 : xk_303.all (xSd xTab xnM 303) = true := by decide +kernel
theorem xc_303 : ∀ e ∈ xk_303, xInv e = true → xCat xTab 303 e.1 := fun _ _ _ => xCat_nil rfl rfl
theorem xh_303 : ∀ e ∈ xk_303, xThr e = true → xLk2 xTab 303 e := xThr_none (by decide +kernel)
theorem xd_304 : xDec (prog_14_method_45_code) xk_304 := xDecW_of (base := 0) (Nat.zero_le _) (by decide +kernel)
theorem xw_304 : ∀ w ∈ xk_304.flatMap (xWd xTab 304), w ∈ tTg xTab := xWB_of (qs := [(15, 105), (15, 107), (3, 3), (14, 206), (15, 84), (15, 86), (2, 15), (15, 105), (15, 107), (3, 3)]) (by decide +kernel)
theorem xs_304 : xk_304.all (xSd xTab xnM 304) = true := by decide +kernel
theorem xc_304 : ∀ e ∈ xk_304, xInv e = true → xCat xTab 304 e.1 := fun _ _ _ => xCat_nil rfl rfl
theorem xh_304 : ∀ e ∈ xk_304, xThr e = true → xLk2 xTab 304 e := xThr_none (by decide +kernel)
theorem xd_305 : xDec (prog_14_method_24_code) xk_305 := xDecW_of (base := 0) (Nat.zero_le _) (by decide +kernel)
theorem xw_305 : ∀ w ∈ xk_305.flatMap (xWd xTab 305), w ∈ tTg xTab := xWB_of (qs := [(15, 67), (15, 69), (2, 11), (14, 205)]) (by decide +kernel)
theorem xs_305 : xk_305.all (xSd xTab xnM 305) = true := by decide +kernel
theorem xc_305 : ∀ e ∈ xk_305, xInv e = true → xCat xTab 305 e.1 := fun _ _ _ => xCat_nil rfl rfl
theorem xh_305 : ∀ e ∈ xk_305, xThr e = true → xLk2 xTab 305 e := xThr_none (by decide +kernel)
theorem xd_306 : xDec (prog_14_method_29_code) xk_306 := xDecW_of (base := 0) (Nat.zero_le _) (by decide +kernel)
theorem xw_306 : ∀ w ∈ xk_306.flatMap (xWd xTab 306), w ∈ tTg xTab := xWB_of (qs := [(14, 195), (15, 75), (15, 77), (2, 13), (15, 92), (15, 94), (3, 0), (15, 151), (15, 153), (3, 11), (15, 92), (15, 94), (3, 0), (15, 151), (15, 153), (3, 11), (15, 156), (15, 158), (3, 12), (14, 206), (15, 84), (15, 86), (2, 15), (15, 92), (15, 94), (3, 0), (14, 206), (14, 195), (14, 195), (14, 195), (14, 195), (14, 195), (14, 195), (15, 163), (15, 165), (3, 13), (14, 195)]) (by decide +kernel)
theorem xs_306 : xk_306.all (xSd xTab xnM 306) = true := by decide +kernel
theorem xc_306 : ∀ e ∈ xk_306, xInv e = true → xCat xTab 306 e.1 := fun _ _ _ => xCat_nil rfl rfl
theorem xh_306 : ∀ e ∈ xk_306, xThr e = true → xLk2 xTab 306 e := xThr_none (by decide +kernel)
theorem xd_307 : xDec (prog_14_method_30_code) xk_307 := xDecW_of (base := 0) (Nat.zero_le _) (by decide +kernel)
theorem xw_307 : ∀ w ∈ xk_307.flatMap (xWd xTab 307), w ∈ tTg xTab := xWB_of (qs := [(14, 195), (15, 75), (15, 77), (2, 13), (15, 151), (15, 153), (3, 11), (15, 92), (15, 94), (3, 0), (15, 151), (15, 153), (3, 11), (15, 92), (15, 94), (3, 0), (14, 206), (15, 84), (15, 86), (2, 15), (15, 96), (15, 98), (3, 1), (14, 195), (15, 92), (15, 94), (3, 0), (14, 206), (15, 174), (15, 176), (3, 15), (15, 75), (15, 77), (2, 13), (14, 206), (14, 195), (14, 195), (14, 195), (14, 195), (14, 195)]) (by decide +kernel)
theorem xs_307 : xk_307.all (xSd xTab xnM 307) = true := by decide +kernel
theorem xc_307 : ∀ e ∈ xk_307, xInv e = true → xCat xTab 307 e.1 := fun _ _ _ => xCat_nil rfl rfl
theorem xh_307 : ∀ e ∈ xk_307, xThr e = true → xLk2 xTab 307 e := xThr_none (by decide +kernel)
theorem xd_308 : xDec (prog_14_method_31_code) xk_308 := xDecW_of (base := 0) (Nat.zero_le _) (by decide +kernel)
theorem xw_308 : ∀ w ∈ xk_308.flatMap (xWd xTab 308), w ∈ tTg xTab := xWB_of (qs := [(14, 195), (15, 92), (15, 94), (3, 0), (15, 96), (15, 98), (3, 1), (14, 195), (15, 92), (15, 94), (3, 0), (14, 206), (15, 75), (15, 77), (2, 13), (14, 206), (15, 163), (15, 165), (3, 13)]) (by decide +kernel)
theorem xs_308 : xk_308.all (xSd xTab xnM 308) = true := by decide +kernel
theorem xc_308 : ∀ e ∈ xk_308, xInv e = true → xCat xTab 308 e.1 := fun _ _ _ => xCat_nil rfl rfl
theorem xh_308 : ∀ e ∈ xk_308, xThr e = true → xLk2 xTab 308 e := xThr_none (by decide +kernel)
theorem xd_309 : xDec (prog_14_method_32_code) xk_309 := xDecW_of (base := 0) (Nat.zero_le _) (by decide +kernel)
theorem xw_309 : ∀ w ∈ xk_309.flatMap (xWd xTab 309), w ∈ tTg xTab := xWB_of (qs := [(14, 195), (15, 92), (15, 94), (3, 0), (14, 206), (15, 192), (15, 194), (4, 3), (15, 92), (15, 94), (3, 0), (14, 206), (15, 192), (15, 194), (4, 3), (15, 92), (15, 94), (3, 0), (14, 206), (14, 195), (14, 195), (14, 195)]) (by decide +kernel)
theorem xs_309 : xk_309.all (xSd xTab xnM 309) = true := by decide +kernel
theorem xc_309 : ∀ e ∈ xk_309, xInv e = true → xCat xTab 309 e.1 := fun _ _ _ => xCat_nil rfl rfl
theorem xh_309 : ∀ e ∈ xk_309, xThr e = true → xLk2 xTab 309 e := xThr_none (by decide +kernel)
theorem xd_310 : xDec (prog_14_method_33_code) xk_310 := xDecW_of (base := 0) (Nat.zero_le _) (by decide +kernel)
theorem xw_310 : ∀ w ∈ xk_310.flatMap (xWd xTab 310), w ∈ tTg xTab := xWB_of (qs := [(15, 92), (15, 94), (3, 0), (14, 206), (14, 195)]) (by decide +kernel)
theorem xs_310 : xk_310.all (xSd xTab xnM 310) = true := by decide +kernel
theorem xc_310 : ∀ e ∈ xk_310, xInv e = true → xCat xTab 310 e.1 := fun _ _ _ => xCat_nil rfl rfl
theorem xh_310 : ∀ e ∈ xk_310, xThr e = true → xLk2 xTab 310 e := xThr_none (by decide +kernel)
theorem xd_311 : xDec (prog_5_method_4_code) xk_311 := xDecW_of (base := 0) (Nat.zero_le _) (by decide +kernel)
theorem xw_311 : ∀ w ∈ xk_311.flatMap (xWd xTab 311), w ∈ tTg xTab := xWB_of (qs := [(9, 29), (12, 59), (11, 70), (11, 71), (9, 30), (9, 34), (9, 29), (12, 59), (11, 70), (11, 71), (9, 30), (9, 34), (9, 29), (12, 59), (11, 70), (11, 71), (9, 30), (9, 34), (9, 29), (12, 62), (11, 60), (11, 61), (9, 31), (9, 34), (9, 29), (8, 77), (9, 29), (12, 59), (11, 70), (11, 71), (12, 64), (12, 66), (1, 2)]) (by decide +kernel)
theorem xs_311 : xk_311.all (xSd xTab xnM 311) = true := by decide +kernel
theorem xc_311 : ∀ e ∈ xk_311, xInv e = true → xCat xTab 311 e.1 := fun _ _ _ => xCat_nil rfl rfl
theorem xh_311 : ∀ e ∈ xk_311, xThr e = true → xLk2 xTab 311 e := xThr_none (by decide +kernel)
theorem xd_312 : xDec (prog_4_method_2_code) xk_312 := xDecW_of (base := 0) (Nat.zero_le _) (by decide +kernel)
theorem xw_312 : ∀ w ∈ xk_312.flatMap (xWd xTab 312), w ∈ tTg xTab := xWB_of (qs := [(8, 44), (8, 37), (8, 38), (8, 45), (12, 108), (8, 47), (12, 108), (8, 48), (12, 108), (8, 49), (12, 108), (8, 50)]) (by decide +kernel)
theorem xs_312 : xk_312.all (xSd xTab xnM 312) = true := by decide +kernel
theorem xc_312 : ∀ e ∈ xk_312, xInv e = true → xCat xTab 312 e.1 := fun _ _ _ => xCat_nil rfl rfl
theorem xh_312 : ∀ e ∈ xk_312, xThr e = true → xLk2 xTab 312 e := xThr_none (by decide +kernel)
theorem xd_313 : xDec (prog_9_method_8_code) xk_313 := xDecW_of (base := 0) (Nat.zero_le _) (by decide +kernel)
theorem xw_313 : ∀ w ∈ xk_313.flatMap (xWd xTab 313), w ∈ tTg xTab := xWB_of (qs := [(12, 157), (12, 158), (9, 90), (12, 161), (12, 162), (9, 91), (12, 166), (10, 29), (10, 30)]) (by decide +kernel)
theorem xs_313 : xk_313.all (xSd xTab xnM 313) = true := by decide +kernel
theorem xc_313 : ∀ e ∈ xk_313, xInv e = true → xCat xTab 313 e.1 := fun _ _ _ => xCat_nil rfl rfl
theorem xh_313 : ∀ e ∈ xk_313, xThr e = true → xLk2 xTab 313 e := xThr_none (by decide +kernel)
theorem xd_314 : xDec (prog_9_method_9_code) xk_314 := xDecW_of (base := 0) (Nat.zero_le _) (by decide +kernel)
theorem xw_314 : ∀ w ∈ xk_314.flatMap (xWd xTab 314), w ∈ tTg xTab := xWB_of (qs := [(8, 136), (8, 143), (12, 160), (10, 56)]) (by decide +kernel)
theorem xs_314 : xk_314.all (xSd xTab xnM 314) = true := by decide +kernel
theorem xc_314 : ∀ e ∈ xk_314, xInv e = true → xCat xTab 314 e.1 := fun _ _ _ => xCat_nil rfl rfl
theorem xh_314 : ∀ e ∈ xk_314, xThr e = true → xLk2 xTab 314 e := xThr_none (by decide +kernel)
theorem xd_315 : xDec (prog_9_method_10_code) xk_315 := xDecW_of (base := 0) (Nat.zero_le _) (by decide +kernel)
theorem xw_315 : ∀ w ∈ xk_315.flatMap (xWd xTab 315), w ∈ tTg xTab := xWB_of (qs := [(8, 143), (12, 164), (10, 53), (12, 165), (10, 26)]) (by decide +kernel)
theorem xs_315 : xk_315.all (xSd xTab xnM 315) = true := by decide +kernel
theorem xc_315 : ∀ e ∈ xk_315, xInv e = true → xCat xTab 315 e.1 := fun _ _ _ => xCat_nil rfl rfl
theorem xh_315 : ∀ e ∈ xk_315, xThr e = true → xLk2 xTab 315 e := xThr_none (by decide +kernel)
theorem xd_316 : xDec (prog_7_method_12_code) xk_316 := xDecW_of (base := 0) (Nat.zero_le _) (by decide +kernel)
theorem xw_316 : ∀ w ∈ xk_316.flatMap (xWd xTab 316), w ∈ tTg xTab := xWB_of (qs := []) (by decide +kernel)
theorem xs_316 : xk_316.all (xSd xTab xnM 316) = true := by decide +kernel
theorem xc_316 : ∀ e ∈ xk_316, xInv e = true → xCat xTab 316 e.1 := fun _ _ _ => xCat_nil rfl rfl
theorem xh_316 : ∀ e ∈ xk_316, xThr e = true → xLk2 xTab 316 e := xThr_none (by decide +kernel)
theorem xd_317 : xDec (prog_6_method_14_code) xk_317 := xDecW_of (base := 0) (Nat.zero_le _) (by decide +kernel)
theorem xw_317 : ∀ w ∈ xk_317.flatMap (xWd xTab 317), w ∈ tTg xTab := xWB_of (qs := [(8, 159), (8, 171), (8, 152), (10, 126), (10, 127), (10, 128), (8, 152), (10, 142), (10, 143), (10, 144)]) (by decide +kernel)
theorem xs_317 : xk_317.all (xSd xTab xnM 317) = true := by decide +kernel
theorem xc_317 : ∀ e ∈ xk_317, xInv e = true → xCat xTab 317 e.1 := fun _ _ _ => xCat_nil rfl rfl
theorem xh_317 : ∀ e ∈ xk_317, xThr e = true → xLk2 xTab 317 e := xThr_none (by decide +kernel)
theorem xd_318 : xDec (prog_6_method_15_code) xk_318 := xDecW_of (base := 0) (Nat.zero_le _) (by decide +kernel)
theorem xw_318 : ∀ w ∈ xk_318.flatMap (xWd xTab 318), w ∈ tTg xTab := xWB_of (qs := [(9, 137), (8, 159), (9, 137)]) (by decide +kernel)
theorem xs_318 : xk_318.all (xSd xTab xnM 318) = true := by decide +kernel
theorem xc_318 : ∀ e ∈ xk_318, xInv e = true → xCat xTab 318 e.1 := fun _ _ _ => xCat_nil rfl rfl
theorem xh_318 : ∀ e ∈ xk_318, xThr e = true → xLk2 xTab 318 e := xThr_none (by decide +kernel)
theorem xd_319 : xDec (prog_6_method_3_code) xk_319 := xDecW_of (base := 0) (Nat.zero_le _) (by decide +kernel)
theorem xw_319 : ∀ w ∈ xk_319.flatMap (xWd xTab 319), w ∈ tTg xTab := xWB_of (qs := [(9, 135), (9, 135), (9, 135), (8, 132), (9, 135), (8, 139), (9, 135), (9, 135), (9, 133), (9, 135), (9, 134), (9, 135), (8, 202), (9, 135), (8, 155)]) (by decide +kernel)
theorem xs_319 : xk_319.all (xSd xTab xnM 319) = true := by decide +kernel
theorem xc_319 : ∀ e ∈ xk_319, xInv e = true → xCat xTab 319 e.1 := fun _ _ _ => xCat_nil rfl rfl
theorem xh_319 : ∀ e ∈ xk_319, xThr e = true → xLk2 xTab 319 e := xThr_none (by decide +kernel)
theorem xd_320 : xDec (prog_4_method_4_code) xk_320 := xDecW_of (base := 0) (Nat.zero_le _) (by decide +kernel)
theorem xw_320 : ∀ w ∈ xk_320.flatMap (xWd xTab 320), w ∈ tTg xTab := xWB_of (qs := [(8, 45), (8, 47), (10, 138), (10, 140), (0, 7), (8, 47), (8, 48), (8, 48)]) (by decide +kernel)
theorem xs_320 : xk_320.all (xSd xTab xnM 320) = true := by decide +kernel
theorem xc_320 : ∀ e ∈ xk_320, xInv e = true → xCat xTab 320 e.1 := fun _ _ _ => xCat_nil rfl rfl
theorem xh_320 : ∀ e ∈ xk_320, xThr e = true → xLk2 xTab 320 e := xThr_none (by decide +kernel)
theorem xd_321 : xDec (prog_4_method_5_code) xk_321 := xDecW_of (base := 0) (Nat.zero_le _) (by decide +kernel)
theorem xw_321 : ∀ w ∈ xk_321.flatMap (xWd xTab 321), w ∈ tTg xTab := xWB_of (qs := [(8, 45), (8, 47), (10, 138), (10, 140), (0, 7)]) (by decide +kernel)
theorem xs_321 : xk_321.all (xSd xTab xnM 321) = true := by decide +kernel
theorem xc_321 : ∀ e ∈ xk_321, xInv e = true → xCat xTab 321 e.1 := fun _ _ _ => xCat_nil rfl rfl
theorem xh_321 : ∀ e ∈ xk_321, xThr e = true → xLk2 xTab 321 e := xThr_none (by decide +kernel)
theorem xd_322 : xDec (prog_14_method_50_code) xk_322 := xDecW_of (base := 0) (Nat.zero_le _) (by decide +kernel)
theorem xw_322 : ∀ w ∈ xk_322.flatMap (xWd xTab 322), w ∈ tTg xTab := xWB_of (qs := []) (by decide +kernel)
theorem xs_322 : xk_322.all (xSd xTab xnM 322) = true := by decide +kernel
theorem xc_322 : ∀ e ∈ xk_322, xInv e = true → xCat xTab 322 e.1 := fun _ _ _ => xCat_nil rfl rfl
theorem xh_322 : ∀ e ∈ xk_322, xThr e = true → xLk2 xTab 322 e := xThr_none (by decide +kernel)
theorem xd_323 : xDec (prog_14_method_49_code) xk_323 := xDecW_of (base := 0) (Nat.zero_le _) (by decide +kernel)
theorem xw_323 : ∀ w ∈ xk_323.flatMap (xWd xTab 323), w ∈ tTg xTab := xWB_of (qs := [(16, 5), (16, 6)]) (by decide +kernel)
theorem xs_323 : xk_323.all (xSd xTab xnM 323) = true := by decide +kernel
theorem xc_323 : ∀ e ∈ xk_323, xInv e = true → xCat xTab 323 e.1 := fun _ _ _ => xCat_nil rfl rfl
theorem xh_323 : ∀ e ∈ xk_323, xThr e = true → xLk2 xTab 323 e := xThr_none (by decide +kernel)
theorem xd_324 : xDec (prog_2_method_3_code) xk_324 := xDecW_of (base := 0) (Nat.zero_le _) (by decide +kernel)
theorem xw_324 : ∀ w ∈ xk_324.flatMap (xWd xTab 324), w ∈ tTg xTab := xWB_of (qs := [(8, 126), (13, 79), (13, 80), (13, 81), (8, 197), (13, 79), (13, 80), (13, 81), (8, 145), (13, 79), (13, 80), (13, 81)]) (by decide +kernel)
theorem xs_324 : xk_324.all (xSd xTab xnM 324) = true := by decide +kernel
theorem xc_324 : ∀ e ∈ xk_324, xInv e = true → xCat xTab 324 e.1 := fun _ _ _ => xCat_nil rfl rfl
theorem xh_324 : ∀ e ∈ xk_324, xThr e = true → xLk2 xTab 324 e := xThr_none (by decide +kernel)
theorem xd_325 : xDec (prog_6_method_9_code) xk_325 := xDecW_of (base := 0) (Nat.zero_le _) (by decide +kernel)
theorem xw_325 : ∀ w ∈ xk_325.flatMap (xWd xTab 325), w ∈ tTg xTab := xWB_of (qs := [(8, 171), (13, 88), (10, 163), (10, 164), (10, 122), (10, 124), (0, 5), (8, 152), (10, 142), (10, 143), (10, 144), (8, 171), (8, 152), (10, 142), (10, 143), (10, 144), (8, 152), (10, 126), (10, 127), (10, 128), (8, 171)]) (by decide +kernel)
theorem xs_325 : xk_325.all (xSd xTab xnM 325) = true := by decide +kernel
theorem xc_325 : ∀ e ∈ xk_325, xInv e = true → xCat xTab 325 e.1 := fun _ _ _ => xCat_nil rfl rfl
theorem xh_325 : ∀ e ∈ xk_325, xThr e = true → xLk2 xTab 325 e := xThr_none (by decide +kernel)
theorem xd_326 : xDec (prog_14_method_63_code) xk_326 := xDecW_of (base := 0) (Nat.zero_le _) (by decide +kernel)
theorem xw_326 : ∀ w ∈ xk_326.flatMap (xWd xTab 326), w ∈ tTg xTab := xWB_of (qs := [(16, 140), (16, 142), (6, 4), (14, 195), (16, 140), (16, 142), (6, 4), (14, 195), (16, 140), (16, 142), (6, 4)]) (by decide +kernel)
theorem xs_326 : xk_326.all (xSd xTab xnM 326) = true := by decide +kernel
theorem xc_326 : ∀ e ∈ xk_326, xInv e = true → xCat xTab 326 e.1 := fun _ _ _ => xCat_nil rfl rfl
theorem xh_326 : ∀ e ∈ xk_326, xThr e = true → xLk2 xTab 326 e := xThr_none (by decide +kernel)
theorem xd_327 : xDec (prog_14_method_64_code) xk_327 := xDecW_of (base := 0) (Nat.zero_le _) (by decide +kernel)
theorem xw_327 : ∀ w ∈ xk_327.flatMap (xWd xTab 327), w ∈ tTg xTab := xWB_of (qs := [(15, 178), (15, 180), (4, 0), (16, 33), (16, 35), (5, 0), (14, 211), (14, 212), (14, 195), (16, 68), (16, 70), (5, 7), (16, 88), (16, 90), (5, 11), (14, 195)]) (by decide +kernel)
theorem xs_327 : xk_327.all (xSd xTab xnM 327) = true := by decide +kernel
theorem xc_327 : ∀ e ∈ xk_327, xInv e = true → xCat xTab 327 e.1 := fun _ _ _ => xCat_nil rfl rfl
theorem xh_327 : ∀ e ∈ xk_327, xThr e = true → xLk2 xTab 327 e := xThr_none (by decide +kernel)
theorem xd_328 : xDec (prog_11_method_5_code) xk_328 := xDecW_of (base := 0) (Nat.zero_le _) (by decide +kernel)
theorem xw_328 : ∀ w ∈ xk_328.flatMap (xWd xTab 328), w ∈ tTg xTab := xWB_of (qs := [(8, 130), (8, 137)]) (by decide +kernel)
theorem xs_328 : xk_328.all (xSd xTab xnM 328) = true := by decide +kernel
theorem xc_328 : ∀ e ∈ xk_328, xInv e = true → xCat xTab 328 e.1 := fun _ _ _ => xCat_nil rfl rfl
theorem xh_328 : ∀ e ∈ xk_328, xThr e = true → xLk2 xTab 328 e := xThr_none (by decide +kernel)
theorem xd_329 : xDec (prog_10_method_4_code) xk_329 := xDecW_of (base := 0) (Nat.zero_le _) (by decide +kernel)
theorem xw_329 : ∀ w ∈ xk_329.flatMap (xWd xTab 329), w ∈ tTg xTab := xWB_of (qs := [(10, 58), (10, 59), (10, 65), (10, 66)]) (by decide +kernel)
theorem xs_329 : xk_329.all (xSd xTab xnM 329) = true := by decide +kernel
theorem xc_329 : ∀ e ∈ xk_329, xInv e = true → xCat xTab 329 e.1 := fun _ _ _ => xCat_nil rfl rfl
theorem xh_329 : ∀ e ∈ xk_329, xThr e = true → xLk2 xTab 329 e := xThr_none (by decide +kernel)
theorem xd_330 : xDec (prog_9_method_7_code) xk_330 := xDecW_of (base := 0) (Nat.zero_le _) (by decide +kernel)
theorem xw_330 : ∀ w ∈ xk_330.flatMap (xWd xTab 330), w ∈ tTg xTab := xWB_of (qs := [(9, 92), (9, 91), (9, 91), (14, 9), (10, 69)]) (by decide +kernel)
theorem xs_330 : xk_330.all (xSd xTab xnM 330) = true := by decide +kernel
theorem xc_330 : ∀ e ∈ xk_330, xInv e = true → xCat xTab 330 e.1 := fun _ _ _ => xCat_nil rfl rfl
theorem xh_330 : ∀ e ∈ xk_330, xThr e = true → xLk2 xTab 330 e := xThr_none (by decide +kernel)
theorem xd_331 : xDec (prog_9_method_6_code) xk_331 := xDecW_of (base := 0) (Nat.zero_le _) (by decide +kernel)
theorem xw_331 : ∀ w ∈ xk_331.flatMap (xWd xTab 331), w ∈ tTg xTab := xWB_of (qs := [(9, 94), (14, 14), (10, 33), (12, 157), (12, 158), (9, 93), (12, 161), (12, 162), (14, 15), (13, 120), (13, 121), (9, 92), (14, 16), (14, 17), (9, 94), (9, 94), (12, 164), (10, 53)]) (by decide +kernel)
theorem xs_331 : xk_331.all (xSd xTab xnM 331) = true := by decide +kernel
theorem xc_331 : ∀ e ∈ xk_331, xInv e = true → xCat xTab 331 e.1 := fun _ _ _ => xCat_nil rfl rfl
theorem xh_331 : ∀ e ∈ xk_331, xThr e = true → xLk2 xTab 331 e := xThr_none (by decide +kernel)
theorem xd_332 : xDec (prog_10_method_15_code) xk_332 := xDecW_of (base := 0) (Nat.zero_le _) (by decide +kernel)
theorem xw_332 : ∀ w ∈ xk_332.flatMap (xWd xTab 332), w ∈ tTg xTab := xWB_of (qs := []) (by decide +kernel)
theorem xs_332 : xk_332.all (xSd xTab xnM 332) = true := by decide +kernel
theorem xc_332 : ∀ e ∈ xk_332, xInv e = true → xCat xTab 332 e.1 := fun _ _ _ => xCat_nil rfl rfl
theorem xh_332 : ∀ e ∈ xk_332, xThr e = true → xLk2 xTab 332 e := xThr_none (by decide +kernel)
theorem xd_333 : xDec (prog_7_method_3_code) xk_333 := xDecW_of (base := 0) (Nat.zero_le _) (by decide +kernel)
theorem xw_333 : ∀ w ∈ xk_333.flatMap (xWd xTab 333), w ∈ tTg xTab := xWB_of (qs := [(8, 131), (8, 138), (8, 131), (8, 138), (10, 21), (10, 22), (10, 23), (10, 21), (10, 22), (10, 23), (9, 114), (10, 25), (10, 26), (9, 115), (10, 28), (10, 29), (10, 30), (9, 114), (10, 25), (10, 26), (9, 115), (10, 28), (10, 29), (10, 30), (9, 115), (9, 115), (10, 68), (10, 69)]) (by decide +kernel)
theorem xs_333 : xk_333.all (xSd xTab xnM 333) = true := by decide +kernel
theorem xc_333 : ∀ e ∈ xk_333, xInv e = true → xCat xTab 333 e.1 := fun _ _ _ => xCat_nil rfl rfl
theorem xh_333 : ∀ e ∈ xk_333, xThr e = true → xLk2 xTab 333 e := xThr_none (by decide +kernel)
theorem xd_334 : xDec (prog_10_method_16_code) xk_334 := xDecW_of (base := 0) (Nat.zero_le _) (by decide +kernel)
theorem xw_334 : ∀ w ∈ xk_334.flatMap (xWd xTab 334), w ∈ tTg xTab := xWB_of (qs := []) (by decide +kernel)
theorem xs_334 : xk_334.all (xSd xTab xnM 334) = true := by decide +kernel
theorem xc_334 : ∀ e ∈ xk_334, xInv e = true → xCat xTab 334 e.1 := fun _ _ _ => xCat_nil rfl rfl
theorem xh_334 : ∀ e ∈ xk_334, xThr e = true → xLk2 xTab 334 e := xThr_none (by decide +kernel)
theorem xd_335 : xDec (prog_7_method_9_code) xk_335 := xDecW_of (base := 0) (Nat.zero_le _) (by decide +kernel)
theorem xw_335 : ∀ w ∈ xk_335.flatMap (xWd xTab 335), w ∈ tTg xTab := xWB_of (qs := [(8, 149), (8, 149), (9, 116)]) (by decide +kernel)
theorem xs_335 : xk_335.all (xSd xTab xnM 335) = true := by decide +kernel
theorem xc_335 : ∀ e ∈ xk_335, xInv e = true → xCat xTab 335 e.1 := fun _ _ _ => xCat_nil rfl rfl
theorem xh_335 : ∀ e ∈ xk_335, xThr e = true → xLk2 xTab 335 e := xThr_none (by decide +kernel)
theorem xd_336 : xDec (prog_7_method_10_code) xk_336 := xDecW_of (base := 0) (Nat.zero_le _) (by decide +kernel)
theorem xw_336 : ∀ w ∈ xk_336.flatMap (xWd xTab 336), w ∈ tTg xTab := xWB_of (qs := [(9, 114), (12, 176), (10, 107), (10, 108), (9, 115), (10, 28), (10, 29), (10, 30), (9, 115), (9, 115), (10, 68), (10, 69)]) (by decide +kernel)
theorem xs_336 : xk_336.all (xSd xTab xnM 336) = true := by decide +kernel
theorem xc_336 : ∀ e ∈ xk_336, xInv e = true → xCat xTab 336 e.1 := fun _ _ _ => xCat_nil rfl rfl
theorem xh_336 : ∀ e ∈ xk_336, xThr e = true → xLk2 xTab 336 e := xThr_none (by decide +kernel)
theorem xd_337 : xDec (prog_6_method_12_code) xk_337 := xDecW_of (base := 0) (Nat.zero_le _) (by decide +kernel)
theorem xw_337 : ∀ w ∈ xk_337.flatMap (xWd xTab 337), w ∈ tTg xTab := xWB_of (qs := [(8, 125), (8, 152), (10, 126), (10, 127), (10, 128)]) (by decide +kernel)
theorem xs_337 : xk_337.all (xSd xTab xnM 337) = true := by decide +kernel
theorem xc_337 : ∀ e ∈ xk_337, xInv e = true → xCat xTab 337 e.1 := fun _ _ _ => xCat_nil rfl rfl
theorem xh_337 : ∀ e ∈ xk_337, xThr e = true → xLk2 xTab 337 e := xThr_none (by decide +kernel)
theorem xd_338 : xDec (prog_6_method_11_code) xk_338 := xDecW_of (base := 0) (Nat.zero_le _) (by decide +kernel)
theorem xw_338 : ∀ w ∈ xk_338.flatMap (xWd xTab 338), w ∈ tTg xTab := xWB_of (qs := [(14, 81), (14, 83), (2, 6), (8, 125), (9, 136), (9, 136), (8, 152), (9, 136), (9, 136)]) (by decide +kernel)
theorem xs_338 : xk_338.all (xSd xTab xnM 338) = true := by decide +kernel
theorem xc_338 : ∀ e ∈ xk_338, xInv e = true → xCat xTab 338 e.1 := fun _ _ _ => xCat_nil rfl rfl
theorem xh_338 : ∀ e ∈ xk_338, xThr e = true → xLk2 xTab 338 e := xThr_none (by decide +kernel)
theorem xd_339 : xDec (prog_24_method_40_code) xk_339 := xDecW_of (base := 0) (Nat.zero_le _) (by decide +kernel)
theorem xw_339 : ∀ w ∈ xk_339.flatMap (xWd xTab 339), w ∈ tTg xTab := xWB_of (qs := []) (by decide +kernel)
theorem xs_339 : xk_339.all (xSd xTab xnM 339) = true := by decide +kernel
theorem xc_339 : ∀ e ∈ xk_339, xInv e = true → xCat xTab 339 e.1 := fun _ _ _ => xCat_nil rfl rfl
theorem xh_339 : ∀ e ∈ xk_339, xThr e = true → xLk2 xTab 339 e := xThr_none (by decide +kernel)
theorem xd_340 : xDec (prog_6_method_19_code) xk_340 := xDecW_of (base := 0) (Nat.zero_le _) (by decide +kernel)
theorem xw_340 : ∀ w ∈ xk_340.flatMap (xWd xTab 340), w ∈ tTg xTab := xWB_of (qs := []) (by decide +kernel)
theorem xs_340 : xk_340.all (xSd xTab xnM 340) = true := by decide +kernel
theorem xc_340 : ∀ e ∈ xk_340, xInv e = true → xCat xTab 340 e.1 := fun _ _ _ => xCat_nil rfl rfl
theorem xh_340 : ∀ e ∈ xk_340, xThr e = true → xLk2 xTab 340 e := xThr_none (by decide +kernel)
theorem xd_341 : xDec (prog_2_method_5_code) xk_341 := xDecW_of (base := 0) (Nat.zero_le _) (by decide +kernel)
theorem xw_341 : ∀ w ∈ xk_341.flatMap (xWd xTab 341), w ∈ tTg xTab := xWB_of (qs := []) (by decide +kernel)
theorem xs_341 : xk_341.all (xSd xTab xnM 341) = true := by decide +kernel
theorem xc_341 : ∀ e ∈ xk_341, xInv e = true → xCat xTab 341 e.1 := fun _ _ _ => xCat_nil rfl rfl
theorem xh_341 : ∀ e ∈ xk_341, xThr e = true → xLk2 xTab 341 e := xThr_none (by decide +kernel)
theorem xd_342 : xDec (prog_25_method_66_code) xk_342 := xDecW_of (base := 0) (Nat.zero_le _) (by decide +kernel)
theorem xw_342 : ∀ w ∈ xk_342.flatMap (xWd xTab 342), w ∈ tTg xTab := xWB_of (qs := []) (by decide +kernel)
theorem xs_342 : xk_342.all (xSd xTab xnM 342) = true := by decide +kernel
theorem xc_342 : ∀ e ∈ xk_342, xInv e = true → xCat xTab 342 e.1 := fun _ _ _ => xCat_nil rfl rfl
theorem xh_342 : ∀ e ∈ xk_342, xThr e = true → xLk2 xTab 342 e := xThr_none (by decide +kernel)
theorem xd_343 : xDec (prog_10_method_7_code) xk_343 := xDecW_of (base := 0) (Nat.zero_le _) (by decide +kernel)
theorem xw_343 : ∀ w ∈ xk_343.flatMap (xWd xTab 343), w ∈ tTg xTab := xWB_of (qs := []) (by decide +kernel)
theorem xs_343 : xk_343.all (xSd xTab xnM 343) = true := by decide +kernel
theorem xc_343 : ∀ e ∈ xk_343, xInv e = true → xCat xTab 343 e.1 := fun _ _ _ => xCat_nil rfl rfl
theorem xh_343 : ∀ e ∈ xk_343, xThr e = true → xLk2 xTab 343 e := xThr_none (by decide +kernel)
theorem xd_344 : xDec (prog_10_method_11_code) xk_344 := xDecW_of (base := 0) (Nat.zero_le _) (by decide +kernel)
theorem xw_344 : ∀ w ∈ xk_344.flatMap (xWd xTab 344), w ∈ tTg xTab := xWB_of (qs := [(10, 41), (10, 15), (10, 41), (10, 15), (10, 52), (10, 53), (10, 52), (10, 53), (10, 55), (10, 56)]) (by decide +kernel)
theorem xs_344 : xk_344.all (xSd xTab xnM 344) = true := by decide +kernel
theorem xc_344 : ∀ e ∈ xk_344, xInv e = true → xCat xTab 344 e.1 := fun _ _ _ => xCat_nil rfl rfl
theorem xh_344 : ∀ e ∈ xk_344, xThr e = true → xLk2 xTab 344 e := xThr_none (by decide +kernel)
theorem xd_345 : xDec (prog_10_method_8_code) xk_345 := xDecW_of (base := 0) (Nat.zero_le _) (by decide +kernel)
theorem xw_345 : ∀ w ∈ xk_345.flatMap (xWd xTab 345), w ∈ tTg xTab := xWB_of (qs := []) (by decide +kernel)
theorem xs_345 : xk_345.all (xSd xTab xnM 345) = true := by decide +kernel
theorem xc_345 : ∀ e ∈ xk_345, xInv e = true → xCat xTab 345 e.1 := fun _ _ _ => xCat_nil rfl rfl
theorem xh_345 : ∀ e ∈ xk_345, xThr e = true → xLk2 xTab 345 e := xThr_none (by decide +kernel)
theorem xd_346 : xDec (prog_10_method_10_code) xk_346 := xDecW_of (base := 0) (Nat.zero_le _) (by decide +kernel)
theorem xw_346 : ∀ w ∈ xk_346.flatMap (xWd xTab 346), w ∈ tTg xTab := xWB_of (qs := [(9, 64), (9, 64)]) (by decide +kernel)
theorem xs_346 : xk_346.all (xSd xTab xnM 346) = true := by decide +kernel
theorem xc_346 : ∀ e ∈ xk_346, xInv e = true → xCat xTab 346 e.1 := fun _ _ _ => xCat_nil rfl rfl
theorem xh_346 : ∀ e ∈ xk_346, xThr e = true → xLk2 xTab 346 e := xThr_none (by decide +kernel)
theorem xd_347 : xDec (prog_10_method_9_code) xk_347 := xDecW_of (base := 0) (Nat.zero_le _) (by decide +kernel)
theorem xw_347 : ∀ w ∈ xk_347.flatMap (xWd xTab 347), w ∈ tTg xTab := xWB_of (qs := []) (by decide +kernel)
theorem xs_347 : xk_347.all (xSd xTab xnM 347) = true := by decide +kernel
theorem xc_347 : ∀ e ∈ xk_347, xInv e = true → xCat xTab 347 e.1 := fun _ _ _ => xCat_nil rfl rfl
theorem xh_347 : ∀ e ∈ xk_347, xThr e = true → xLk2 xTab 347 e := xThr_none (by decide +kernel)
theorem xd_348 : xDec (prog_12_method_6_code) xk_348 := xDecW_of (base := 0) (Nat.zero_le _) (by decide +kernel)
theorem xw_348 : ∀ w ∈ xk_348.flatMap (xWd xTab 348), w ∈ tTg xTab := xWB_of (qs := []) (by decide +kernel)
theorem xs_348 : xk_348.all (xSd xTab xnM 348) = true := by decide +kernel
theorem xc_348 : ∀ e ∈ xk_348, xInv e = true → xCat xTab 348 e.1 := fun _ _ _ => xCat_nil rfl rfl
theorem xh_348 : ∀ e ∈ xk_348, xThr e = true → xLk2 xTab 348 e := xThr_none (by decide +kernel)
theorem xd_349 : xDec (prog_12_method_10_code) xk_349 := xDecW_of (base := 0) (Nat.zero_le _) (by decide +kernel)
theorem xw_349 : ∀ w ∈ xk_349.flatMap (xWd xTab 349), w ∈ tTg xTab := xWB_of (qs := [(8, 72), (8, 75), (8, 74), (8, 75), (8, 73), (8, 75), (11, 3), (11, 3), (8, 69), (8, 73), (8, 75), (11, 13)]) (by decide +kernel)
theorem xs_349 : xk_349.all (xSd xTab xnM 349) = true := by decide +kernel
theorem xc_349 : ∀ e ∈ xk_349, xInv e = true → xCat xTab 349 e.1 := fun _ _ _ => xCat_nil rfl rfl
theorem xh_349 : ∀ e ∈ xk_349, xThr e = true → xLk2 xTab 349 e := xThr_none (by decide +kernel)
theorem xd_350 : xDec (prog_3_method_4_code) xk_350 := xDecW_of (base := 0) (Nat.zero_le _) (by decide +kernel)
theorem xw_350 : ∀ w ∈ xk_350.flatMap (xWd xTab 350), w ∈ tTg xTab := xWB_of (qs := [(8, 127), (9, 19), (11, 55), (11, 56), (11, 57), (9, 19), (11, 59), (11, 60), (11, 61), (8, 133), (9, 19), (8, 76), (9, 19), (11, 69), (11, 70), (11, 71), (9, 19), (11, 59), (11, 60), (11, 61), (8, 140), (9, 19), (8, 76), (9, 19), (11, 69), (11, 70), (11, 71), (11, 75), (11, 77), (0, 10), (8, 151), (9, 19), (11, 69), (11, 70), (11, 71), (9, 19), (11, 59), (11, 60), (11, 61), (8, 151), (9, 19), (8, 76), (8, 127), (8, 127)]) (by decide +kernel)
theorem xs_350 : xk_350.all (xSd xTab xnM 350) = true := by decide +kernel
theorem xc_350 : ∀ e ∈ xk_350, xInv e = true → xCat xTab 350 e.1 := fun _ _ _ => xCat_nil rfl rfl
theorem xh_350 : ∀ e ∈ xk_350, xThr e = true → xLk2 xTab 350 e := xThr_none (by decide +kernel)
theorem xd_351 : xDec (prog_3_method_6_code) xk_351 := xDecW_of (base := 0) (Nat.zero_le _) (by decide +kernel)
theorem xw_351 : ∀ w ∈ xk_351.flatMap (xWd xTab 351), w ∈ tTg xTab := xWB_of (qs := [(8, 158), (9, 19), (11, 55), (11, 56), (11, 57), (9, 19), (11, 69), (11, 70), (11, 71), (9, 19), (11, 59), (11, 60), (11, 61), (8, 163), (9, 19), (8, 76), (9, 19), (11, 69), (11, 70), (11, 71), (9, 19), (11, 59), (11, 60), (11, 61), (8, 167), (9, 19), (8, 76), (8, 170), (9, 19), (11, 69), (11, 70), (11, 71), (9, 19), (11, 152), (11, 64), (11, 65), (11, 153), (11, 154), (11, 155), (9, 19), (8, 127), (11, 59), (11, 60), (11, 61), (8, 170), (8, 158), (8, 158)]) (by decide +kernel)
theorem xs_351 : xk_351.all (xSd xTab xnM 351) = true := by decide +kernel
theorem xc_351 : ∀ e ∈ xk_351, xInv e = true → xCat xTab 351 e.1 := fun _ _ _ => xCat_nil rfl rfl
theorem xh_351 : ∀ e ∈ xk_351, xThr e = true → xLk2 xTab 351 e := xThr_none (by decide +kernel)
theorem xd_352 : xDec (prog_12_method_13_code) xk_352 := xDecW_of (base := 0) (Nat.zero_le _) (by decide +kernel)
theorem xw_352 : ∀ w ∈ xk_352.flatMap (xWd xTab 352), w ∈ tTg xTab := xWB_of (qs := [(11, 73), (11, 0), (11, 1), (11, 67), (11, 56), (11, 57)]) (by decide +kernel)
theorem xs_352 : xk_352.all (xSd xTab xnM 352) = true := by decide +kernel
theorem xc_352 : ∀ e ∈ xk_352, xInv e = true → xCat xTab 352 e.1 := fun _ _ _ => xCat_nil rfl rfl
theorem xh_352 : ∀ e ∈ xk_352, xThr e = true → xLk2 xTab 352 e := xThr_none (by decide +kernel)
theorem xd_353 : xDec (prog_3_method_7_code) xk_353 := xDecW_of (base := 0) (Nat.zero_le _) (by decide +kernel)
theorem xw_353 : ∀ w ∈ xk_353.flatMap (xWd xTab 353), w ∈ tTg xTab := xWB_of (qs := [(9, 19), (8, 127), (11, 59), (11, 60), (11, 61), (9, 19), (8, 76), (9, 19), (11, 152), (11, 64), (11, 65), (9, 19), (8, 127), (11, 59), (11, 60), (11, 61), (9, 19), (8, 76), (11, 162), (11, 163), (11, 164)]) (by decide +kernel)
theorem xs_353 : xk_353.all (xSd xTab xnM 353) = true := by decide +kernel
theorem xc_353 : ∀ e ∈ xk_353, xInv e = true → xCat xTab 353 e.1 := fun _ _ _ => xCat_nil rfl rfl
theorem xh_353 : ∀ e ∈ xk_353, xThr e = true → xLk2 xTab 353 e := xThr_none (by decide +kernel)
theorem xd_354 : xDec (prog_3_method_8_code) xk_354 := xDecW_of (base := 0) (Nat.zero_le _) (by decide +kernel)
theorem xw_354 : ∀ w ∈ xk_354.flatMap (xWd xTab 354), w ∈ tTg xTab := xWB_of (qs := [(9, 19), (8, 127), (11, 59), (11, 60), (11, 61), (9, 19), (8, 76), (9, 19), (8, 133), (11, 59), (11, 60), (11, 61), (9, 19), (8, 76), (9, 19), (8, 140), (11, 59), (11, 60), (11, 61), (8, 179), (9, 19), (8, 76), (11, 171), (10, 26), (8, 182)]) (by decide +kernel)
theorem xs_354 : xk_354.all (xSd xTab xnM 354) = true := by decide +kernel
theorem xc_354 : ∀ e ∈ xk_354, xInv e = true → xCat xTab 354 e.1 := fun _ _ _ => xCat_nil rfl rfl
theorem xh_354 : ∀ e ∈ xk_354, xThr e = true → xLk2 xTab 354 e := xThr_none (by decide +kernel)
theorem xd_355 : xDec (prog_3_method_9_code) xk_355 := xDecW_of (base := 0) (Nat.zero_le _) (by decide +kernel)
theorem xw_355 : ∀ w ∈ xk_355.flatMap (xWd xTab 355), w ∈ tTg xTab := xWB_of (qs := [(9, 19), (11, 69), (11, 70), (11, 71), (8, 190), (9, 19), (11, 69), (11, 70), (11, 71), (8, 190), (9, 19), (11, 69), (11, 70), (11, 71), (8, 190)]) (by decide +kernel)
theorem xs_355 : xk_355.all (xSd xTab xnM 355) = true := by decide +kernel
theorem xc_355 : ∀ e ∈ xk_355, xInv e = true → xCat xTab 355 e.1 := fun _ _ _ => xCat_nil rfl rfl
theorem xh_355 : ∀ e ∈ xk_355, xThr e = true → xLk2 xTab 355 e := xThr_none (by decide +kernel)
theorem xd_356 : xDec (prog_3_method_10_code) xk_356 := xDecW_of (base := 0) (Nat.zero_le _) (by decide +kernel)
theorem xw_356 : ∀ w ∈ xk_356.flatMap (xWd xTab 356), w ∈ tTg xTab := xWB_of (qs := [(9, 19), (11, 69), (11, 70), (11, 71), (9, 19), (11, 59), (11, 60), (11, 61), (9, 19), (8, 76), (8, 186), (9, 19), (11, 69), (11, 70), (11, 71), (9, 19), (11, 59), (11, 60), (11, 61), (9, 19), (8, 76), (8, 194), (9, 19), (11, 69), (11, 70), (11, 71), (9, 19), (11, 59), (11, 60), (11, 61), (9, 19), (8, 76), (8, 198), (9, 19), (11, 69), (11, 70), (11, 71), (9, 19), (11, 59), (11, 60), (11, 61), (9, 19), (8, 76), (8, 203)]) (by decide +kernel)
theorem xs_356 : xk_356.all (xSd xTab xnM 356) = true := by decide +kernel
theorem xc_356 : ∀ e ∈ xk_356, xInv e = true → xCat xTab 356 e.1 := fun _ _ _ => xCat_nil rfl rfl
theorem xh_356 : ∀ e ∈ xk_356, xThr e = true → xLk2 xTab 356 e := xThr_none (by decide +kernel)
theorem xd_357 : xDec (prog_12_method_9_code) xk_357 := xDecW_of (base := 0) (Nat.zero_le _) (by decide +kernel)
theorem xw_357 : ∀ w ∈ xk_357.flatMap (xWd xTab 357), w ∈ tTg xTab := xWB_of (qs := [(8, 72), (8, 75), (8, 69), (8, 73), (8, 75)]) (by decide +kernel)
theorem xs_357 : xk_357.all (xSd xTab xnM 357) = true := by decide +kernel
theorem xc_357 : ∀ e ∈ xk_357, xInv e = true → xCat xTab 357 e.1 := fun _ _ _ => xCat_nil rfl rfl
theorem xh_357 : ∀ e ∈ xk_357, xThr e = true → xLk2 xTab 357 e := xThr_none (by decide +kernel)
theorem xd_358 : xDec (prog_12_method_11_code) xk_358 := xDecW_of (base := 0) (Nat.zero_le _) (by decide +kernel)
theorem xw_358 : ∀ w ∈ xk_358.flatMap (xWd xTab 358), w ∈ tTg xTab := xWB_of (qs := [(8, 72), (8, 75), (8, 75), (8, 75)]) (by decide +kernel)
theorem xs_358 : xk_358.all (xSd xTab xnM 358) = true := by decide +kernel
theorem xc_358 : ∀ e ∈ xk_358, xInv e = true → xCat xTab 358 e.1 := fun _ _ _ => xCat_nil rfl rfl
theorem xh_358 : ∀ e ∈ xk_358, xThr e = true → xLk2 xTab 358 e := xThr_none (by decide +kernel)
theorem xd_359 : xDec (prog_14_method_44_code) xk_359 := xDecW_of (base := 0) (Nat.zero_le _) (by decide +kernel)
theorem xw_359 : ∀ w ∈ xk_359.flatMap (xWd xTab 359), w ∈ tTg xTab := xWB_of (qs := [(15, 109), (15, 111), (3, 4), (14, 206), (15, 84), (15, 86), (2, 15), (15, 109), (15, 111), (3, 4)]) (by decide +kernel)
theorem xs_359 : xk_359.all (xSd xTab xnM 359) = true := by decide +kernel
theorem xc_359 : ∀ e ∈ xk_359, xInv e = true → xCat xTab 359 e.1 := fun _ _ _ => xCat_nil rfl rfl
theorem xh_359 : ∀ e ∈ xk_359, xThr e = true → xLk2 xTab 359 e := xThr_none (by decide +kernel)
theorem xd_360 : xDec (prog_14_method_28_code) xk_360 := xDecW_of (base := 0) (Nat.zero_le _) (by decide +kernel)
theorem xw_360 : ∀ w ∈ xk_360.flatMap (xWd xTab 360), w ∈ tTg xTab := xWB_of (qs := [(14, 206), (15, 84), (15, 86), (2, 15), (14, 205), (15, 75), (15, 77), (2, 13)]) (by decide +kernel)
theorem xs_360 : xk_360.all (xSd xTab xnM 360) = true := by decide +kernel
theorem xc_360 : ∀ e ∈ xk_360, xInv e = true → xCat xTab 360 e.1 := fun _ _ _ => xCat_nil rfl rfl
theorem xh_360 : ∀ e ∈ xk_360, xThr e = true → xLk2 xTab 360 e := xThr_none (by decide +kernel)
theorem xd_361 : xDec (prog_14_method_27_code) xk_361 := xDecW_of (base := 0) (Nat.zero_le _) (by decide +kernel)
theorem xw_361 : ∀ w ∈ xk_361.flatMap (xWd xTab 361), w ∈ tTg xTab := xWB_of (qs := [(14, 206), (15, 96), (15, 98), (3, 1), (14, 204), (15, 71), (15, 73), (2, 12), (15, 48), (15, 49), (15, 71), (15, 73), (2, 12), (15, 160), (15, 161), (15, 75), (15, 77), (2, 13), (14, 205)]) (by decide +kernel)
theorem xs_361 : xk_361.all (xSd xTab xnM 361) = true := by decide +kernel
theorem xc_361 : ∀ e ∈ xk_361, xInv e = true → xCat xTab 361 e.1 := fun _ _ _ => xCat_nil rfl rfl
theorem xh_361 : ∀ e ∈ xk_361, xThr e = true → xLk2 xTab 361 e := xThr_none (by decide +kernel)
theorem xd_362 : xDec (prog_12_method_14_code) xk_362 := xDecW_of (base := 0) (Nat.zero_le _) (by decide +kernel)
theorem xw_362 : ∀ w ∈ xk_362.flatMap (xWd xTab 362), w ∈ tTg xTab := xWB_of (qs := [(11, 63), (11, 64), (11, 65), (8, 78), (11, 67), (11, 56), (11, 57)]) (by decide +kernel)
theorem xs_362 : xk_362.all (xSd xTab xnM 362) = true := by decide +kernel
theorem xc_362 : ∀ e ∈ xk_362, xInv e = true → xCat xTab 362 e.1 := fun _ _ _ => xCat_nil rfl rfl
theorem xh_362 : ∀ e ∈ xk_362, xThr e = true → xLk2 xTab 362 e := xThr_none (by decide +kernel)
theorem xd_363 : xDec (prog_5_method_5_code) xk_363 := xDecW_of (base := 0) (Nat.zero_le _) (by decide +kernel)
theorem xw_363 : ∀ w ∈ xk_363.flatMap (xWd xTab 363), w ∈ tTg xTab := xWB_of (qs := [(12, 68), (12, 70), (1, 3), (9, 29), (12, 59), (11, 70), (11, 71), (12, 68), (12, 70), (1, 3), (12, 75), (12, 77), (1, 4), (12, 75), (12, 77), (1, 4), (9, 29), (12, 59), (11, 70), (11, 71)]) (by decide +kernel)
theorem xs_363 : xk_363.all (xSd xTab xnM 363) = true := by decide +kernel
theorem xc_363 : ∀ e ∈ xk_363, xInv e = true → xCat xTab 363 e.1 := fun _ _ _ => xCat_nil rfl rfl
theorem xh_363 : ∀ e ∈ xk_363, xThr e = true → xLk2 xTab 363 e := xThr_none (by decide +kernel)
theorem xd_364 : xDec (prog_4_method_6_code) xk_364 := xDecW_of (base := 0) (Nat.zero_le _) (by decide +kernel)
theorem xw_364 : ∀ w ∈ xk_364.flatMap (xWd xTab 364), w ∈ tTg xTab := xWB_of (qs := [(8, 49), (8, 49), (8, 50)]) (by decide +kernel)
theorem xs_364 : xk_364.all (xSd xTab xnM 364) = true := by decide +kernel
theorem xc_364 : ∀ e ∈ xk_364, xInv e = true → xCat xTab 364 e.1 := fun _ _ _ => xCat_nil rfl rfl
theorem xh_364 : ∀ e ∈ xk_364, xThr e = true → xLk2 xTab 364 e := xThr_none (by decide +kernel)
theorem xd_365 : xDec (prog_14_method_16_code) xk_365 := xDecW_of (base := 0) (Nat.zero_le _) (by decide +kernel)
theorem xw_365 : ∀ w ∈ xk_365.flatMap (xWd xTab 365), w ∈ tTg xTab := xWB_of (qs := []) (by decide +kernel)
theorem xs_365 : xk_365.all (xSd xTab xnM 365) = true := by decide +kernel
theorem xc_365 : ∀ e ∈ xk_365, xInv e = true → xCat xTab 365 e.1 := fun _ _ _ => xCat_nil rfl rfl
theorem xh_365 : ∀ e ∈ xk_365, xThr e = true → xLk2 xTab 365 e := xThr_none (by decide +kernel)
theorem xd_366 : xDec (prog_11_method_14_code) xk_366 := xDecW_of (base := 0) (Nat.zero_le _) (by decide +kernel)
theorem xw_366 : ∀ w ∈ xk_366.flatMap (xWd xTab 366), w ∈ tTg xTab := xWB_of (qs := [(13, 83), (8, 205), (8, 205), (8, 205)]) (by decide +kernel)
theorem xs_366 : xk_366.all (xSd xTab xnM 366) = true := by decide +kernel
theorem xc_366 : ∀ e ∈ xk_366, xInv e = true → xCat xTab 366 e.1 := fun _ _ _ => xCat_nil rfl rfl
theorem xh_366 : ∀ e ∈ xk_366, xThr e = true → xLk2 xTab 366 e := xThr_none (by decide +kernel)
theorem xd_367 : xDec (prog_14_method_62_code) xk_367 := xDecW_of (base := 0) (Nat.zero_le _) (by decide +kernel)
theorem xw_367 : ∀ w ∈ xk_367.flatMap (xWd xTab 367), w ∈ tTg xTab := xWB_of (qs := [(14, 195), (16, 144), (14, 195), (14, 195)]) (by decide +kernel)
theorem xs_367 : xk_367.all (xSd xTab xnM 367) = true := by decide +kernel
theorem xc_367 : ∀ e ∈ xk_367, xInv e = true → xCat xTab 367 e.1 := fun _ _ _ => xCat_nil rfl rfl
theorem xh_367 : ∀ e ∈ xk_367, xThr e = true → xLk2 xTab 367 e := xThr_none (by decide +kernel)
theorem xd_368 : xDec (prog_9_method_11_code) xk_368 := xDecW_of (base := 0) (Nat.zero_le _) (by decide +kernel)
theorem xw_368 : ∀ w ∈ xk_368.flatMap (xWd xTab 368), w ∈ tTg xTab := xWB_of (qs := [(8, 143)]) (by decide +kernel)
theorem xs_368 : xk_368.all (xSd xTab xnM 368) = true := by decide +kernel
theorem xc_368 : ∀ e ∈ xk_368, xInv e = true → xCat xTab 368 e.1 := fun _ _ _ => xCat_nil rfl rfl
theorem xh_368 : ∀ e ∈ xk_368, xThr e = true → xLk2 xTab 368 e := xThr_none (by decide +kernel)
theorem xd_369 : xDec (prog_3_method_5_code) xk_369 := xDecW_of (base := 0) (Nat.zero_le _) (by decide +kernel)
theorem xw_369 : ∀ w ∈ xk_369.flatMap (xWd xTab 369), w ∈ tTg xTab := xWB_of (qs := [(9, 19), (11, 79), (11, 80), (11, 81), (9, 19), (11, 84), (11, 85), (11, 86), (11, 88), (8, 146), (9, 19), (11, 55), (11, 56), (11, 57)]) (by decide +kernel)
theorem xs_369 : xk_369.all (xSd xTab xnM 369) = true := by decide +kernel
theorem xc_369 : ∀ e ∈ xk_369, xInv e = true → xCat xTab 369 e.1 := fun _ _ _ => xCat_nil rfl rfl
theorem xh_369 : ∀ e ∈ xk_369, xThr e = true → xLk2 xTab 369 e := xThr_none (by decide +kernel)
theorem xd_370 : xDec (prog_12_method_15_code) xk_370 := xDecW_of (base := 0) (Nat.zero_le _) (by decide +kernel)
theorem xw_370 : ∀ w ∈ xk_370.flatMap (xWd xTab 370), w ∈ tTg xTab := xWB_of (qs := [(8, 72), (8, 75), (8, 74), (8, 75), (8, 73), (8, 75), (8, 73), (8, 75), (8, 74), (8, 75), (8, 69)]) (by decide +kernel)
theorem xs_370 : xk_370.all (xSd xTab xnM 370) = true := by decide +kernel
theorem xc_370 : ∀ e ∈ xk_370, xInv e = true → xCat xTab 370 e.1 := fun _ _ _ => xCat_nil rfl rfl
theorem xh_370 : ∀ e ∈ xk_370, xThr e = true → xLk2 xTab 370 e := xThr_none (by decide +kernel)
theorem xd_371 : xDec (prog_14_method_43_code) xk_371 := xDecW_of (base := 0) (Nat.zero_le _) (by decide +kernel)
theorem xw_371 : ∀ w ∈ xk_371.flatMap (xWd xTab 371), w ∈ tTg xTab := xWB_of (qs := [(14, 206), (15, 96), (15, 98), (3, 1), (15, 84), (15, 86), (2, 15), (15, 114), (15, 116), (3, 5), (15, 118), (15, 120), (3, 6), (14, 207), (15, 75), (15, 77), (2, 13), (14, 207), (14, 207), (15, 109), (15, 111), (3, 4), (14, 205), (14, 205), (15, 101), (15, 103), (3, 2), (14, 206), (15, 114), (15, 116), (3, 5), (14, 205), (15, 75), (15, 77), (2, 13), (14, 205), (14, 205), (14, 207), (14, 207)]) (by decide +kernel)
theorem xs_371 : xk_371.all (xSd xTab xnM 371) = true := by decide +kernel
theorem xc_371 : ∀ e ∈ xk_371, xInv e = true → xCat xTab 371 e.1 := fun _ _ _ => xCat_nil rfl rfl
theorem xh_371 : ∀ e ∈ xk_371, xThr e = true → xLk2 xTab 371 e := xThr_none (by decide +kernel)
theorem xd_372 : xDec (prog_5_method_6_code) xk_372 := xDecW_of (base := 0) (Nat.zero_le _) (by decide +kernel)
theorem xw_372 : ∀ w ∈ xk_372.flatMap (xWd xTab 372), w ∈ tTg xTab := xWB_of (qs := [(9, 29), (12, 73), (11, 0), (11, 1), (9, 29), (12, 74), (11, 193), (11, 194), (9, 29), (12, 59), (11, 70), (11, 71), (12, 68), (12, 70), (1, 3), (12, 75), (12, 77), (1, 4), (9, 29), (12, 79), (11, 189), (11, 190), (12, 64), (12, 66), (1, 2), (9, 29), (12, 79), (11, 189), (11, 190), (9, 29), (12, 59), (11, 70), (11, 71), (12, 75), (12, 77), (1, 4), (9, 29), (12, 59), (11, 70), (11, 71), (12, 75), (12, 77), (1, 4), (12, 82), (12, 84), (1, 5), (9, 29), (12, 74), (11, 193), (11, 194), (9, 29), (12, 74), (11, 193), (11, 194), (9, 29), (12, 97), (11, 56), (11, 57), (12, 75), (12, 77), (1, 4), (12, 82), (12, 84), (1, 5), (12, 75), (12, 77), (1, 4)]) (by decide +kernel)
theorem xs_372 : xk_372.all (xSd xTab xnM 372) = true := by decide +kernel
theorem xc_372 : ∀ e ∈ xk_372, xInv e = true → xCat xTab 372 e.1 := fun _ _ _ => xCat_nil rfl rfl
theorem xh_372 : ∀ e ∈ xk_372, xThr e = true → xLk2 xTab 372 e := xThr_none (by decide +kernel)
theorem xd_373 : xDec (prog_5_method_8_code) xk_373 := xDecW_of (base := 0) (Nat.zero_le _) (by decide +kernel)
theorem xw_373 : ∀ w ∈ xk_373.flatMap (xWd xTab 373), w ∈ tTg xTab := xWB_of (qs := [(9, 35), (9, 33), (9, 35), (9, 35), (9, 35)]) (by decide +kernel)
theorem xs_373 : xk_373.all (xSd xTab xnM 373) = true := by decide +kernel
theorem xc_373 : ∀ e ∈ xk_373, xInv e = true → xCat xTab 373 e.1 := fun _ _ _ => xCat_nil rfl rfl
theorem xh_373 : ∀ e ∈ xk_373, xThr e = true → xLk2 xTab 373 e := xThr_none (by decide +kernel)
theorem xd_374 : xDec (prog_12_method_16_code) xk_374 := xDecW_of (base := 0) (Nat.zero_le _) (by decide +kernel)
theorem xw_374 : ∀ w ∈ xk_374.flatMap (xWd xTab 374), w ∈ tTg xTab := xWB_of (qs := [(8, 72), (8, 75), (8, 74), (8, 75), (8, 73), (8, 75)]) (by decide +kernel)
theorem xs_374 : xk_374.all (xSd xTab xnM 374) = true := by decide +kernel
theorem xc_374 : ∀ e ∈ xk_374, xInv e = true → xCat xTab 374 e.1 := fun _ _ _ => xCat_nil rfl rfl
theorem xh_374 : ∀ e ∈ xk_374, xThr e = true → xLk2 xTab 374 e := xThr_none (by decide +kernel)
theorem xd_375 : xDec (prog_12_method_17_code) xk_375 := xDecW_of (base := 0) (Nat.zero_le _) (by decide +kernel)
theorem xw_375 : ∀ w ∈ xk_375.flatMap (xWd xTab 375), w ∈ tTg xTab := xWB_of (qs := [(8, 74), (8, 75), (8, 73), (8, 75), (8, 69), (8, 73), (8, 75)]) (by decide +kernel)
theorem xs_375 : xk_375.all (xSd xTab xnM 375) = true := by decide +kernel
theorem xc_375 : ∀ e ∈ xk_375, xInv e = true → xCat xTab 375 e.1 := fun _ _ _ => xCat_nil rfl rfl
theorem xh_375 : ∀ e ∈ xk_375, xThr e = true → xLk2 xTab 375 e := xThr_none (by decide +kernel)
theorem xd_376 : xDec (prog_14_method_42_code) xk_376 := xDecW_of (base := 0) (Nat.zero_le _) (by decide +kernel)
theorem xw_376 : ∀ w ∈ xk_376.flatMap (xWd xTab 376), w ∈ tTg xTab := xWB_of (qs := [(15, 84), (15, 86), (2, 15), (14, 209), (15, 84), (15, 86), (2, 15), (14, 210), (15, 124), (15, 126), (3, 7), (14, 206), (15, 114), (15, 116), (3, 5), (15, 114), (15, 116), (3, 5), (14, 205), (15, 75), (15, 77), (2, 13), (14, 205), (14, 205), (15, 124), (15, 126), (3, 7)]) (by decide +kernel)
theorem xs_376 : xk_376.all (xSd xTab xnM 376) = true := by decide +kernel
theorem xc_376 : ∀ e ∈ xk_376, xInv e = true → xCat xTab 376 e.1 := fun _ _ _ => xCat_nil rfl rfl
theorem xh_376 : ∀ e ∈ xk_376, xThr e = true → xLk2 xTab 376 e := xThr_none (by decide +kernel)
theorem xd_377 : xDec (prog_5_method_7_code) xk_377 := xDecW_of (base := 0) (Nat.zero_le _) (by decide +kernel)
theorem xw_377 : ∀ w ∈ xk_377.flatMap (xWd xTab 377), w ∈ tTg xTab := xWB_of (qs := [(9, 29), (12, 62), (11, 60), (11, 61), (9, 29), (8, 77), (12, 75), (12, 77), (1, 4), (9, 29), (12, 86), (12, 87), (12, 73), (11, 0), (11, 1), (12, 75), (12, 77), (1, 4), (9, 29), (12, 97), (11, 56), (11, 57), (9, 29), (12, 79), (11, 189), (11, 190)]) (by decide +kernel)
theorem xs_377 : xk_377.all (xSd xTab xnM 377) = true := by decide +kernel
theorem xc_377 : ∀ e ∈ xk_377, xInv e = true → xCat xTab 377 e.1 := fun _ _ _ => xCat_nil rfl rfl
theorem xh_377 : ∀ e ∈ xk_377, xThr e = true → xLk2 xTab 377 e := xThr_none (by decide +kernel)
theorem xd_378 : xDec (prog_14_method_41_code) xk_378 := xDecW_of (base := 0) (Nat.zero_le _) (by decide +kernel)
theorem xw_378 : ∀ w ∈ xk_378.flatMap (xWd xTab 378), w ∈ tTg xTab := xWB_of (qs := [(15, 128), (15, 130), (3, 8), (14, 206), (15, 114), (15, 116), (3, 5), (14, 205), (14, 205), (15, 128), (15, 130), (3, 8)]) (by decide +kernel)
theorem xs_378 : xk_378.all (xSd xTab xnM 378) = true := by decide +kernel
theorem xc_378 : ∀ e ∈ xk_378, xInv e = true → xCat xTab 378 e.1 := fun _ _ _ => xCat_nil rfl rfl
theorem xh_378 : ∀ e ∈ xk_378, xThr e = true → xLk2 xTab 378 e := xThr_none (by decide +kernel)
theorem xd_379 : xDec (prog_4_method_3_code) xk_379 := xDecW_of (base := 0) (Nat.zero_le _) (by decide +kernel)
theorem xw_379 : ∀ w ∈ xk_379.flatMap (xWd xTab 379), w ∈ tTg xTab := xWB_of (qs := []) (by decide +kernel)
theorem xs_379 : xk_379.all (xSd xTab xnM 379) = true := by decide +kernel
theorem xc_379 : ∀ e ∈ xk_379, xInv e = true → xCat xTab 379 e.1 := fun _ _ _ => xCat_nil rfl rfl
theorem xh_379 : ∀ e ∈ xk_379, xThr e = true → xLk2 xTab 379 e := xThr_none (by decide +kernel)
theorem xd_380 : xDec (prog_14_method_40_code) xk_380 := xDecW_of (base := 0) (Nat.zero_le _) (by decide +kernel)
theorem xw_380 : ∀ w ∈ xk_380.flatMap (xWd xTab 380), w ∈ tTg xTab := xWB_of (qs := [(14, 206), (15, 67), (15, 69), (2, 11), (14, 205), (14, 204), (14, 205), (15, 71), (15, 73), (2, 12), (15, 48), (15, 49), (15, 92), (15, 94), (3, 0), (15, 84), (15, 86), (2, 15), (15, 84), (15, 86), (2, 15), (15, 84), (15, 86), (2, 15), (15, 84), (15, 86), (2, 15), (15, 84), (15, 86), (2, 15), (15, 84), (15, 86), (2, 15), (15, 84), (15, 86), (2, 15), (15, 84), (15, 86), (2, 15), (14, 205), (15, 75), (15, 77), (2, 13), (14, 208)]) (by decide +kernel)
theorem xs_380 : xk_380.all (xSd xTab xnM 380) = true := by decide +kernel
theorem xc_380 : ∀ e ∈ xk_380, xInv e = true → xCat xTab 380 e.1 := fun _ _ _ => xCat_nil rfl rfl
theorem xh_380 : ∀ e ∈ xk_380, xThr e = true → xLk2 xTab 380 e := xThr_none (by decide +kernel)
theorem xd_381 : xDec (code) xk_381 := xDecW_of (base := 0) (Nat.zero_le _) (by decide +kernel)
theorem xw_381 : ∀ w ∈ xk_381.flatMap (xWd xTab 381), w ∈ tTg xTab := xWB_of (qs := [(8, 31), (8, 32), (8, 1), (8, 33), (8, 34), (14, 188), (14, 189), (8, 13), (14, 190), (14, 191), (17, 163), (9, 218), (9, 219), (9, 220), (15, 40), (15, 41), (15, 42), (9, 230), (9, 231), (9, 232), (15, 44), (15, 45), (15, 46), (10, 210), (10, 211), (15, 51), (15, 52), (15, 53), (15, 36), (15, 37), (15, 38), (12, 41), (12, 42), (15, 211), (15, 212), (15, 213), (15, 36), (15, 37), (15, 38), (9, 238), (9, 239), (10, 0), (15, 215), (15, 216), (15, 217), (12, 120), (12, 121), (15, 219), (15, 220), (15, 221), (15, 36), (15, 37), (15, 38), (12, 213), (12, 214), (16, 60), (16, 61), (16, 62), (15, 36), (15, 37), (15, 38), (13, 0), (13, 1), (16, 84), (16, 85), (16, 86), (15, 36), (15, 37), (15, 38), (13, 8), (13, 9), (16, 92), (16, 93), (16, 94), (15, 36), (15, 37), (15, 38), (13, 16), (13, 17), (16, 100), (16, 101), (16, 102), (15, 36), (15, 37), (15, 38), (13, 35), (13, 36), (16, 108), (16, 109), (16, 110), (15, 36), (15, 37), (15, 38), (13, 55), (13, 56), (16, 120), (16, 121), (16, 122), (15, 36), (15, 37), (15, 38), (13, 96), (13, 97), (16, 155), (16, 156), (16, 157), (15, 36), (15, 37), (15, 38), (13, 124), (13, 125), (16, 169), (16, 170), (16, 171), (15, 36), (15, 37), (15, 38), (13, 131), (13, 132), (16, 173), (16, 174), (16, 175), (15, 36), (15, 37), (15, 38), (13, 143), (13, 144), (16, 181), (16, 182), (16, 183), (15, 36), (15, 37), (15, 38), (13, 150), (13, 151), (16, 185), (16, 186), (16, 187), (15, 36), (15, 37), (15, 38), (13, 158), (13, 159), (16, 189), (16, 190), (16, 191), (15, 36), (15, 37), (15, 38), (13, 165), (13, 166), (16, 193), (16, 194), (16, 195), (15, 36), (15, 37), (15, 38), (13, 172), (13, 173), (16, 197), (16, 198), (16, 199), (15, 36), (15, 37), (15, 38), (13, 179), (13, 180), (16, 201), (16, 202), (16, 203), (15, 36), (15, 37), (15, 38), (13, 186), (13, 187), (16, 205), (16, 206), (16, 207), (15, 36), (15, 37), (15, 38), (13, 194), (13, 195), (16, 209), (16, 210), (16, 211), (15, 36), (15, 37), (15, 38), (13, 208), (13, 209), (16, 213), (16, 214), (16, 215), (15, 36), (15, 37), (15, 38), (13, 234), (13, 235), (16, 233), (16, 234), (16, 235), (15, 36), (15, 37), (15, 38), (14, 19), (14, 20), (17, 5), (17, 6), (17, 7), (15, 36), (15, 37), (15, 38), (14, 27), (14, 28), (17, 9), (17, 10), (17, 11), (15, 36), (15, 37), (15, 38), (10, 2), (10, 3), (10, 4), (17, 25), (17, 26), (17, 27), (10, 71), (10, 72), (10, 73), (17, 29), (17, 30), (17, 31), (14, 35), (14, 36), (17, 37), (17, 38), (17, 39), (15, 36), (15, 37), (15, 38), (14, 54), (14, 55), (17, 45), (17, 46), (17, 47), (15, 36), (15, 37), (15, 38), (14, 62), (14, 63), (17, 49), (17, 50), (17, 51), (15, 36), (15, 37), (15, 38), (10, 86), (10, 87), (10, 88), (17, 57), (17, 58), (17, 59), (14, 69), (14, 70), (17, 61), (17, 62), (17, 63), (15, 36), (15, 37), (15, 38), (10, 98), (10, 99), (10, 100), (17, 69), (17, 70), (17, 71), (14, 89), (14, 90), (17, 73), (17, 74), (17, 75), (15, 36), (15, 37), (15, 38), (14, 97), (14, 98), (17, 77), (17, 78), (17, 79), (15, 36), (15, 37), (15, 38), (14, 114), (14, 115), (17, 85), (17, 86), (17, 87), (15, 36), (15, 37), (15, 38), (10, 151), (10, 152), (10, 153), (17, 91), (17, 92), (17, 93), (10, 158), (10, 159), (10, 160), (17, 95), (17, 96), (17, 97), (10, 166), (10, 167), (10, 168), (17, 99), (17, 100), (17, 101), (10, 170), (10, 171), (10, 172), (17, 103), (17, 104), (17, 105), (10, 174), (10, 175), (10, 176), (17, 111), (17, 112), (17, 113), (14, 132), (14, 133), (17, 115), (17, 116), (17, 117), (15, 36), (15, 37), (15, 38), (14, 139), (14, 140), (17, 119), (17, 120), (17, 121), (15, 36), (15, 37), (15, 38), (14, 146), (14, 147), (17, 123), (17, 124), (17, 125), (15, 36), (15, 37), (15, 38), (14, 154), (14, 155), (17, 127), (17, 128), (17, 129), (15, 36), (15, 37), (15, 38), (14, 162), (14, 163), (17, 131), (17, 132), (17, 133), (15, 36), (15, 37), (15, 38), (14, 177), (14, 178), (17, 139), (17, 140), (17, 141), (15, 36), (15, 37), (15, 38), (10, 178), (10, 179), (10, 180), (17, 143), (17, 144), (17, 145), (10, 182), (10, 183), (10, 184), (17, 147), (17, 148), (17, 149), (10, 198), (10, 199), (10, 200), (17, 151), (17, 152), (17, 153), (10, 202), (10, 203), (10, 204), (17, 155), (17, 156), (17, 157), (10, 206), (10, 207), (10, 208), (17, 159), (17, 160), (17, 161)]) (by decide +kernel)
theorem xs_381 : xk_381.all (xSd xTab xnM 381) = true := by decide +kernel
theorem xc_381 : ∀ e ∈ xk_381, xInv e = true → xCat xTab 381 e.1 := fun _ _ _ => xCat_nil rfl rfl
theorem xh_381 : ∀ e ∈ xk_381, xThr e = true → xLk2 xTab 381 e := xThr_none (by decide +kernel)
