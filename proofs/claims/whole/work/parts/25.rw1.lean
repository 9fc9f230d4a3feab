/-! ===== THE ROWS OF METHODS 0 TO 95 ===== -/
theorem xd_0 : xDec (prog_1_method_1_code) xk_0 := xDecW_of (base := 0) (Nat.zero_le _) (by decide +kernel)
theorem xw_0 : ∀ w ∈ xk_0.flatMap (xWd xTab 0), w ∈ tTg xTab := xWB_of (qs := [(8, 36), (8, 37), (8, 38), (8, 39), (8, 40), (8, 2), (8, 41), (8, 42), (8, 63), (8, 64), (8, 3), (8, 65), (8, 66), (9, 166), (9, 167), (8, 100), (8, 101), (8, 4), (8, 102), (8, 103), (9, 168), (8, 100), (8, 101), (8, 4), (8, 102), (8, 103), (9, 169), (8, 100), (8, 101), (8, 4), (8, 102), (8, 103), (9, 170), (8, 100), (9, 172), (9, 172), (8, 100), (8, 101), (8, 4), (8, 102), (8, 103), (9, 13), (9, 14), (8, 6), (9, 166), (9, 15), (9, 16), (9, 175), (9, 23), (9, 24), (8, 7), (9, 166), (9, 25), (9, 26), (9, 176), (8, 62), (9, 177), (9, 51), (9, 52), (8, 8), (9, 53), (9, 54), (9, 178), (9, 82), (9, 83), (8, 9), (9, 178), (9, 84), (9, 85), (9, 179), (9, 107), (9, 108), (8, 10), (9, 178), (9, 109), (9, 110), (9, 180), (9, 124), (9, 125), (8, 11), (9, 178), (9, 126), (9, 127), (9, 181), (9, 156), (9, 157), (8, 12), (9, 181), (9, 158), (9, 159), (9, 182)]) (by decide +kernel)
theorem xs_0 : xk_0.all (xSd xTab xnM 0) = true := by decide +kernel
theorem xc_0 : ∀ e ∈ xk_0, xInv e = true → xCat xTab 0 e.1 := fun _ _ _ => xCat_nil rfl rfl
theorem xh_0 : ∀ e ∈ xk_0, xThr e = true → xLk2 xTab 0 e := xThr_none (by decide +kernel)
theorem xd_1 : xDec (prog_14_method_1_code) xk_1 := xDecW_of (base := 0) (Nat.zero_le _) (by decide +kernel)
theorem xw_1 : ∀ w ∈ xk_1.flatMap (xWd xTab 1), w ∈ tTg xTab := xWB_of (qs := [(14, 193), (8, 37), (8, 38), (8, 62), (14, 195), (8, 62), (14, 196), (8, 62), (14, 198), (8, 62), (14, 199), (8, 62), (14, 201), (14, 206), (8, 62), (14, 208), (8, 62), (14, 213), (8, 62), (14, 214), (8, 62), (14, 215), (9, 106), (14, 216), (8, 62), (14, 217), (8, 62), (14, 218), (8, 62), (14, 219), (8, 62), (14, 220), (14, 195), (14, 195), (14, 195), (14, 195), (14, 195)]) (by decide +kernel)
theorem xs_1 : xk_1.all (xSd xTab xnM 1) = true := by decide +kernel
theorem xc_1 : ∀ e ∈ xk_1, xInv e = true → xCat xTab 1 e.1 := fun _ _ _ => xCat_nil rfl rfl
theorem xh_1 : ∀ e ∈ xk_1, xThr e = true → xLk2 xTab 1 e := xThr_none (by decide +kernel)
theorem xd_2 : xDec (prog_1_method_2_code) xk_2 := xDecW_of (base := 0) (Nat.zero_le _) (by decide +kernel)
theorem xw_2 : ∀ w ∈ xk_2.flatMap (xWd xTab 2), w ∈ tTg xTab := xWB_of (qs := [(9, 166), (9, 222), (9, 223), (9, 224), (9, 166), (9, 226), (9, 227), (9, 228), (9, 166), (9, 226), (9, 227), (9, 228), (9, 166), (9, 226), (9, 227), (9, 228), (9, 166), (9, 226), (9, 227), (9, 228), (9, 166), (9, 226), (9, 227), (9, 228), (9, 166), (8, 71)]) (by decide +kernel)
theorem xs_2 : xk_2.all (xSd xTab xnM 2) = true := by decide +kernel
theorem xc_2 : ∀ e ∈ xk_2, xInv e = true → xCat xTab 2 e.1 := fun _ _ _ => xCat_nil rfl rfl
theorem xh_2 : ∀ e ∈ xk_2, xThr e = true → xLk2 xTab 2 e := xThr_none (by decide +kernel)
theorem xd_3 : xDec (prog_14_method_17_code) xk_3 := xDecW_of (base := 0) (Nat.zero_le _) (by decide +kernel)
theorem xw_3 : ∀ w ∈ xk_3.flatMap (xWd xTab 3), w ∈ tTg xTab := xWB_of (qs := [(14, 194), (14, 202), (14, 201), (14, 202), (14, 202), (14, 202), (14, 202)]) (by decide +kernel)
theorem xs_3 : xk_3.all (xSd xTab xnM 3) = true := by decide +kernel
theorem xc_3 : ∀ e ∈ xk_3, xInv e = true → xCat xTab 3 e.1 := fun _ _ _ => xCat_nil rfl rfl
theorem xh_3 : ∀ e ∈ xk_3, xThr e = true → xLk2 xTab 3 e := xThr_none (by decide +kernel)
theorem xd_4 : xDec (prog_1_method_3_code) xk_4 := xDecW_of (base := 0) (Nat.zero_le _) (by decide +kernel)
theorem xw_4 : ∀ w ∈ xk_4.flatMap (xWd xTab 4), w ∈ tTg xTab := xWB_of (qs := [(9, 166), (9, 234), (9, 235), (9, 236)]) (by decide +kernel)
theorem xs_4 : xk_4.all (xSd xTab xnM 4) = true := by decide +kernel
theorem xc_4 : ∀ e ∈ xk_4, xInv e = true → xCat xTab 4 e.1 := fun _ _ _ => xCat_nil rfl rfl
theorem xh_4 : ∀ e ∈ xk_4, xThr e = true → xLk2 xTab 4 e := xThr_none (by decide +kernel)
theorem xd_5 : xDec (prog_14_method_18_code) xk_5 := xDecW_of (base := 0) (Nat.zero_le _) (by decide +kernel)
theorem xw_5 : ∀ w ∈ xk_5.flatMap (xWd xTab 5), w ∈ tTg xTab := xWB_of (qs := [(14, 194), (14, 202), (15, 48), (15, 49), (14, 202)]) (by decide +kernel)
theorem xs_5 : xk_5.all (xSd xTab xnM 5) = true := by decide +kernel
theorem xc_5 : ∀ e ∈ xk_5, xInv e = true → xCat xTab 5 e.1 := fun _ _ _ => xCat_nil rfl rfl
theorem xh_5 : ∀ e ∈ xk_5, xThr e = true → xLk2 xTab 5 e := xThr_none (by decide +kernel)
theorem xd_6 : xDec (method_3_code) xk_6 := xDecW_of (base := 0) (Nat.zero_le _) (by decide +kernel)
theorem xw_6 : ∀ w ∈ xk_6.flatMap (xWd xTab 6), w ∈ tTg xTab := xWB_of (qs := [(10, 215), (10, 216), (10, 217)]) (by decide +kernel)
theorem xs_6 : xk_6.all (xSd xTab xnM 6) = true := by decide +kernel
theorem xc_6 : ∀ e ∈ xk_6, xInv e = true → xCat xTab 6 e.1 := xCat_of (by decide +kernel) (by decide +kernel) (xWB_of (qs := [(10, 213), (10, 214)]) (by decide +kernel))
theorem xh_6 : ∀ e ∈ xk_6, xThr e = true → xLk2 xTab 6 e := xThr_none (by decide +kernel)
theorem xd_7 : xDec (prog_14_method_39_code) xk_7 := xDecW_of (base := 0) (Nat.zero_le _) (by decide +kernel)
theorem xw_7 : ∀ w ∈ xk_7.flatMap (xWd xTab 7), w ∈ tTg xTab := xWB_of (qs := [(15, 55), (15, 57), (2, 8), (15, 59), (15, 61), (2, 9), (15, 63), (15, 65), (2, 10), (14, 206), (14, 195), (14, 194), (14, 194), (15, 207), (15, 209), (4, 5), (14, 195), (14, 200), (14, 195)]) (by decide +kernel)
theorem xs_7 : xk_7.all (xSd xTab xnM 7) = true := by decide +kernel
theorem xc_7 : ∀ e ∈ xk_7, xInv e = true → xCat xTab 7 e.1 := fun _ _ _ => xCat_nil rfl rfl
theorem xh_7 : ∀ e ∈ xk_7, xThr e = true → xLk2 xTab 7 e := xThr_none (by decide +kernel)
theorem xd_8 : xDec (prog_14_method_2_code) xk_8 := xDecW_of (base := 0) (Nat.zero_le _) (by decide +kernel)
theorem xw_8 : ∀ w ∈ xk_8.flatMap (xWd xTab 8), w ∈ tTg xTab := xWB_of (qs := [(14, 194)]) (by decide +kernel)
theorem xs_8 : xk_8.all (xSd xTab xnM 8) = true := by decide +kernel
theorem xc_8 : ∀ e ∈ xk_8, xInv e = true → xCat xTab 8 e.1 := fun _ _ _ => xCat_nil rfl rfl
theorem xh_8 : ∀ e ∈ xk_8, xThr e = true → xLk2 xTab 8 e := xThr_none (by decide +kernel)
theorem xd_9 : xDec (method_4_code) xk_9 := xDecW_of (base := 0) (Nat.zero_le _) (by decide +kernel)
theorem xw_9 : ∀ w ∈ xk_9.flatMap (xWd xTab 9), w ∈ tTg xTab := xWB_of (qs := [(12, 44), (12, 45), (12, 46)]) (by decide +kernel)
theorem xs_9 : xk_9.all (xSd xTab xnM 9) = true := by decide +kernel
theorem xc_9 : ∀ e ∈ xk_9, xInv e = true → xCat xTab 9 e.1 := xCat_of (by decide +kernel) (by decide +kernel) (xWB_of (qs := [(10, 213)]) (by decide +kernel))
theorem xh_9 : ∀ e ∈ xk_9, xThr e = true → xLk2 xTab 9 e := xThr_none (by decide +kernel)
theorem xd_10 : xDec (prog_14_method_47_code) xk_10 := xDecW_of (base := 0) (Nat.zero_le _) (by decide +kernel)
theorem xw_10 : ∀ w ∈ xk_10.flatMap (xWd xTab 10), w ∈ tTg xTab := xWB_of (qs := [(15, 59), (15, 61), (2, 9), (15, 63), (15, 65), (2, 10), (14, 206), (14, 194), (14, 194), (14, 195), (14, 195), (14, 204), (14, 204), (14, 195), (14, 201), (14, 200)]) (by decide +kernel)
theorem xs_10 : xk_10.all (xSd xTab xnM 10) = true := by decide +kernel
theorem xc_10 : ∀ e ∈ xk_10, xInv e = true → xCat xTab 10 e.1 := fun _ _ _ => xCat_nil rfl rfl
theorem xh_10 : ∀ e ∈ xk_10, xThr e = true → xLk2 xTab 10 e := xThr_none (by decide +kernel)
theorem xd_11 : xDec (prog_1_method_6_code) xk_11 := xDecW_of (base := 0) (Nat.zero_le _) (by decide +kernel)
theorem xw_11 : ∀ w ∈ xk_11.flatMap (xWd xTab 11), w ∈ tTg xTab := xWB_of (qs := [(9, 167)]) (by decide +kernel)
theorem xs_11 : xk_11.all (xSd xTab xnM 11) = true := by decide +kernel
theorem xc_11 : ∀ e ∈ xk_11, xInv e = true → xCat xTab 11 e.1 := fun _ _ _ => xCat_nil rfl rfl
theorem xh_11 : ∀ e ∈ xk_11, xThr e = true → xLk2 xTab 11 e := xThr_none (by decide +kernel)
theorem xd_12 : xDec (prog_14_method_48_code) xk_12 := xDecW_of (base := 0) (Nat.zero_le _) (by decide +kernel)
theorem xw_12 : ∀ w ∈ xk_12.flatMap (xWd xTab 12), w ∈ tTg xTab := xWB_of (qs := [(14, 194), (14, 206)]) (by decide +kernel)
theorem xs_12 : xk_12.all (xSd xTab xnM 12) = true := by decide +kernel
theorem xc_12 : ∀ e ∈ xk_12, xInv e = true → xCat xTab 12 e.1 := fun _ _ _ => xCat_nil rfl rfl
theorem xh_12 : ∀ e ∈ xk_12, xThr e = true → xLk2 xTab 12 e := xThr_none (by decide +kernel)
theorem xd_13 : xDec (method_5_code) xk_13 := xDecW_of (base := 0) (Nat.zero_le _) (by decide +kernel)
theorem xw_13 : ∀ w ∈ xk_13.flatMap (xWd xTab 13), w ∈ tTg xTab := xWB_of (qs := [(12, 125), (12, 126), (12, 127)]) (by decide +kernel)
theorem xs_13 : xk_13.all (xSd xTab xnM 13) = true := by decide +kernel
theorem xc_13 : ∀ e ∈ xk_13, xInv e = true → xCat xTab 13 e.1 := xCat_of (by decide +kernel) (by decide +kernel) (xWB_of (qs := [(12, 123), (12, 124)]) (by decide +kernel))
theorem xh_13 : ∀ e ∈ xk_13, xThr e = true → xLk2 xTab 13 e := xThr_none (by decide +kernel)
theorem xd_14 : xDec (prog_14_method_75_code) xk_14 := xDecW_of (base := 0) (Nat.zero_le _) (by decide +kernel)
theorem xw_14 : ∀ w ∈ xk_14.flatMap (xWd xTab 14), w ∈ tTg xTab := xWB_of (qs := [(15, 223), (15, 225), (4, 6), (15, 48), (15, 49), (14, 194), (14, 194), (15, 192), (15, 194), (4, 3), (15, 174), (15, 176), (3, 15), (15, 227), (15, 229), (4, 7), (16, 8), (16, 10), (4, 10), (16, 12), (16, 14), (4, 11), (16, 16), (16, 18), (4, 12), (16, 25), (16, 27), (4, 14), (16, 45), (16, 47), (5, 3)]) (by decide +kernel)
theorem xs_14 : xk_14.all (xSd xTab xnM 14) = true := by decide +kernel
theorem xc_14 : ∀ e ∈ xk_14, xInv e = true → xCat xTab 14 e.1 := fun _ _ _ => xCat_nil rfl rfl
theorem xh_14 : ∀ e ∈ xk_14, xThr e = true → xLk2 xTab 14 e := xThr_none (by decide +kernel)
theorem xd_15 : xDec (method_6_code) xk_15 := xDecW_of (base := 0) (Nat.zero_le _) (by decide +kernel)
theorem xw_15 : ∀ w ∈ xk_15.flatMap (xWd xTab 15), w ∈ tTg xTab := xWB_of (qs := [(12, 216), (12, 217), (12, 218)]) (by decide +kernel)
theorem xs_15 : xk_15.all (xSd xTab xnM 15) = true := by decide +kernel
theorem xc_15 : ∀ e ∈ xk_15, xInv e = true → xCat xTab 15 e.1 := xCat_of (by decide +kernel) (by decide +kernel) (xWB_of (qs := [(12, 123), (12, 124)]) (by decide +kernel))
theorem xh_15 : ∀ e ∈ xk_15, xThr e = true → xLk2 xTab 15 e := xThr_none (by decide +kernel)
theorem xd_16 : xDec (prog_14_method_76_code) xk_16 := xDecW_of (base := 0) (Nat.zero_le _) (by decide +kernel)
theorem xw_16 : ∀ w ∈ xk_16.flatMap (xWd xTab 16), w ∈ tTg xTab := xWB_of (qs := [(16, 64), (16, 66), (5, 6), (15, 48), (15, 49), (14, 194), (14, 194), (15, 178), (15, 180), (4, 0), (16, 68), (16, 70), (5, 7), (16, 72), (16, 74), (5, 8)]) (by decide +kernel)
theorem xs_16 : xk_16.all (xSd xTab xnM 16) = true := by decide +kernel
theorem xc_16 : ∀ e ∈ xk_16, xInv e = true → xCat xTab 16 e.1 := fun _ _ _ => xCat_nil rfl rfl
theorem xh_16 : ∀ e ∈ xk_16, xThr e = true → xLk2 xTab 16 e := xThr_none (by decide +kernel)
theorem xd_17 : xDec (method_7_code) xk_17 := xDecW_of (base := 0) (Nat.zero_le _) (by decide +kernel)
theorem xw_17 : ∀ w ∈ xk_17.flatMap (xWd xTab 17), w ∈ tTg xTab := xWB_of (qs := [(13, 3), (13, 4), (13, 5)]) (by decide +kernel)
theorem xs_17 : xk_17.all (xSd xTab xnM 17) = true := by decide +kernel
theorem xc_17 : ∀ e ∈ xk_17, xInv e = true → xCat xTab 17 e.1 := xCat_of (by decide +kernel) (by decide +kernel) (xWB_of (qs := [(12, 123)]) (by decide +kernel))
theorem xh_17 : ∀ e ∈ xk_17, xThr e = true → xLk2 xTab 17 e := xThr_none (by decide +kernel)
theorem xd_18 : xDec (prog_14_method_77_code) xk_18 := xDecW_of (base := 0) (Nat.zero_le _) (by decide +kernel)
theorem xw_18 : ∀ w ∈ xk_18.flatMap (xWd xTab 18), w ∈ tTg xTab := xWB_of (qs := [(16, 64), (16, 66), (5, 6), (15, 223), (15, 225), (4, 6), (14, 194), (14, 194), (16, 88), (16, 90), (5, 11)]) (by decide +kernel)
theorem xs_18 : xk_18.all (xSd xTab xnM 18) = true := by decide +kernel
theorem xc_18 : ∀ e ∈ xk_18, xInv e = true → xCat xTab 18 e.1 := fun _ _ _ => xCat_nil rfl rfl
theorem xh_18 : ∀ e ∈ xk_18, xThr e = true → xLk2 xTab 18 e := xThr_none (by decide +kernel)
theorem xd_19 : xDec (method_8_code) xk_19 := xDecW_of (base := 0) (Nat.zero_le _) (by decide +kernel)
theorem xw_19 : ∀ w ∈ xk_19.flatMap (xWd xTab 19), w ∈ tTg xTab := xWB_of (qs := [(13, 11), (13, 12), (13, 13)]) (by decide +kernel)
theorem xs_19 : xk_19.all (xSd xTab xnM 19) = true := by decide +kernel
theorem xc_19 : ∀ e ∈ xk_19, xInv e = true → xCat xTab 19 e.1 := xCat_of (by decide +kernel) (by decide +kernel) (xWB_of (qs := [(12, 123)]) (by decide +kernel))
theorem xh_19 : ∀ e ∈ xk_19, xThr e = true → xLk2 xTab 19 e := xThr_none (by decide +kernel)
theorem xd_20 : xDec (prog_14_method_78_code) xk_20 := xDecW_of (base := 0) (Nat.zero_le _) (by decide +kernel)
theorem xw_20 : ∀ w ∈ xk_20.flatMap (xWd xTab 20), w ∈ tTg xTab := xWB_of (qs := [(16, 64), (16, 66), (5, 6), (15, 223), (15, 225), (4, 6), (14, 194), (14, 194), (16, 96), (16, 98), (5, 12)]) (by decide +kernel)
theorem xs_20 : xk_20.all (xSd xTab xnM 20) = true := by decide +kernel
theorem xc_20 : ∀ e ∈ xk_20, xInv e = true → xCat xTab 20 e.1 := fun _ _ _ => xCat_nil rfl rfl
theorem xh_20 : ∀ e ∈ xk_20, xThr e = true → xLk2 xTab 20 e := xThr_none (by decide +kernel)
theorem xd_21 : xDec (method_9_code) xk_21 := xDecW_of (base := 0) (Nat.zero_le _) (by decide +kernel)
theorem xw_21 : ∀ w ∈ xk_21.flatMap (xWd xTab 21), w ∈ tTg xTab := xWB_of (qs := [(13, 19), (13, 20), (13, 21)]) (by decide +kernel)
theorem xs_21 : xk_21.all (xSd xTab xnM 21) = true := by decide +kernel
theorem xc_21 : ∀ e ∈ xk_21, xInv e = true → xCat xTab 21 e.1 := xCat_of (by decide +kernel) (by decide +kernel) (xWB_of (qs := [(12, 123), (10, 213)]) (by decide +kernel))
theorem xh_21 : ∀ e ∈ xk_21, xThr e = true → xLk2 xTab 21 e := xThr_none (by decide +kernel)
theorem xd_22 : xDec (prog_14_method_80_code) xk_22 := xDecW_of (base := 0) (Nat.zero_le _) (by decide +kernel)
theorem xw_22 : ∀ w ∈ xk_22.flatMap (xWd xTab 22), w ∈ tTg xTab := xWB_of (qs := [(16, 104), (16, 106), (5, 13), (14, 194), (16, 41), (16, 43), (5, 2)]) (by decide +kernel)
theorem xs_22 : xk_22.all (xSd xTab xnM 22) = true := by decide +kernel
theorem xc_22 : ∀ e ∈ xk_22, xInv e = true → xCat xTab 22 e.1 := fun _ _ _ => xCat_nil rfl rfl
theorem xh_22 : ∀ e ∈ xk_22, xThr e = true → xLk2 xTab 22 e := xThr_none (by decide +kernel)
theorem xd_23 : xDec (method_10_code) xk_23 := xDecW_of (base := 0) (Nat.zero_le _) (by decide +kernel)
theorem xw_23 : ∀ w ∈ xk_23.flatMap (xWd xTab 23), w ∈ tTg xTab := xWB_of (qs := [(13, 38), (13, 39), (13, 40)]) (by decide +kernel)
theorem xs_23 : xk_23.all (xSd xTab xnM 23) = true := by decide +kernel
theorem xc_23 : ∀ e ∈ xk_23, xInv e = true → xCat xTab 23 e.1 := xCat_of (by decide +kernel) (by decide +kernel) (xWB_of (qs := [(12, 123)]) (by decide +kernel))
theorem xh_23 : ∀ e ∈ xk_23, xThr e = true → xLk2 xTab 23 e := xThr_none (by decide +kernel)
theorem xd_24 : xDec (prog_14_method_82_code) xk_24 := xDecW_of (base := 0) (Nat.zero_le _) (by decide +kernel)
theorem xw_24 : ∀ w ∈ xk_24.flatMap (xWd xTab 24), w ∈ tTg xTab := xWB_of (qs := [(16, 112), (16, 114), (5, 14), (14, 194), (15, 231), (15, 233), (4, 8), (14, 213), (14, 213)]) (by decide +kernel)
theorem xs_24 : xk_24.all (xSd xTab xnM 24) = true := by decide +kernel
theorem xc_24 : ∀ e ∈ xk_24, xInv e = true → xCat xTab 24 e.1 := fun _ _ _ => xCat_nil rfl rfl
theorem xh_24 : ∀ e ∈ xk_24, xThr e = true → xLk2 xTab 24 e := xThr_none (by decide +kernel)
theorem xd_25 : xDec (method_11_code) xk_25 := xDecW_of (base := 0) (Nat.zero_le _) (by decide +kernel)
theorem xw_25 : ∀ w ∈ xk_25.flatMap (xWd xTab 25), w ∈ tTg xTab := xWB_of (qs := [(13, 58), (13, 59), (13, 60)]) (by decide +kernel)
theorem xs_25 : xk_25.all (xSd xTab xnM 25) = true := by decide +kernel
theorem xc_25 : ∀ e ∈ xk_25, xInv e = true → xCat xTab 25 e.1 := xCat_of (by decide +kernel) (by decide +kernel) (xWB_of (qs := [(10, 213)]) (by decide +kernel))
theorem xh_25 : ∀ e ∈ xk_25, xThr e = true → xLk2 xTab 25 e := xThr_none (by decide +kernel)
theorem xd_26 : xDec (prog_14_method_85_code) xk_26 := xDecW_of (base := 0) (Nat.zero_le _) (by decide +kernel)
theorem xw_26 : ∀ w ∈ xk_26.flatMap (xWd xTab 26), w ∈ tTg xTab := xWB_of (qs := [(15, 48), (15, 49), (14, 194), (14, 194), (16, 124), (16, 126), (6, 0), (16, 128), (16, 130), (6, 1), (16, 49), (16, 51), (5, 4), (16, 152), (16, 153)]) (by decide +kernel)
theorem xs_26 : xk_26.all (xSd xTab xnM 26) = true := by decide +kernel
theorem xc_26 : ∀ e ∈ xk_26, xInv e = true → xCat xTab 26 e.1 := fun _ _ _ => xCat_nil rfl rfl
theorem xh_26 : ∀ e ∈ xk_26, xThr e = true → xLk2 xTab 26 e := xThr_none (by decide +kernel)
theorem xd_27 : xDec (method_12_code) xk_27 := xDecW_of (base := 0) (Nat.zero_le _) (by decide +kernel)
theorem xw_27 : ∀ w ∈ xk_27.flatMap (xWd xTab 27), w ∈ tTg xTab := xWB_of (qs := [(13, 100), (13, 101), (13, 102)]) (by decide +kernel)
theorem xs_27 : xk_27.all (xSd xTab xnM 27) = true := by decide +kernel
theorem xc_27 : ∀ e ∈ xk_27, xInv e = true → xCat xTab 27 e.1 := xCat_of (by decide +kernel) (by decide +kernel) (xWB_of (qs := [(12, 123), (13, 99)]) (by decide +kernel))
theorem xh_27 : ∀ e ∈ xk_27, xThr e = true → xLk2 xTab 27 e := xThr_none (by decide +kernel)
theorem xd_28 : xDec (prog_14_method_88_code) xk_28 := xDecW_of (base := 0) (Nat.zero_le _) (by decide +kernel)
theorem xw_28 : ∀ w ∈ xk_28.flatMap (xWd xTab 28), w ∈ tTg xTab := xWB_of (qs := [(15, 48), (15, 49), (14, 194), (14, 194), (14, 195), (14, 195), (14, 195), (16, 159), (16, 160), (14, 195), (16, 162), (16, 163), (16, 116), (16, 118), (5, 15), (14, 194), (14, 194), (14, 195), (16, 159), (16, 160), (16, 165), (16, 167), (6, 6), (14, 195), (16, 162), (16, 163), (14, 195), (14, 195)]) (by decide +kernel)
theorem xs_28 : xk_28.all (xSd xTab xnM 28) = true := by decide +kernel
theorem xc_28 : ∀ e ∈ xk_28, xInv e = true → xCat xTab 28 e.1 := fun _ _ _ => xCat_nil rfl rfl
theorem xh_28 : ∀ e ∈ xk_28, xThr e = true → xLk2 xTab 28 e := xThr_none (by decide +kernel)
theorem xd_29 : xDec (method_13_code) xk_29 := xDecW_of (base := 0) (Nat.zero_le _) (by decide +kernel)
theorem xw_29 : ∀ w ∈ xk_29.flatMap (xWd xTab 29), w ∈ tTg xTab := xWB_of (qs := [(13, 127), (13, 128), (13, 129)]) (by decide +kernel)
theorem xs_29 : xk_29.all (xSd xTab xnM 29) = true := by decide +kernel
theorem xc_29 : ∀ e ∈ xk_29, xInv e = true → xCat xTab 29 e.1 := xCat_of (by decide +kernel) (by decide +kernel) (xWB_of (qs := [(12, 123)]) (by decide +kernel))
theorem xh_29 : ∀ e ∈ xk_29, xThr e = true → xLk2 xTab 29 e := xThr_none (by decide +kernel)
theorem xd_30 : xDec (prog_14_method_89_code) xk_30 := xDecW_of (base := 0) (Nat.zero_le _) (by decide +kernel)
theorem xw_30 : ∀ w ∈ xk_30.flatMap (xWd xTab 30), w ∈ tTg xTab := xWB_of (qs := [(15, 223), (15, 225), (4, 6), (14, 194), (14, 194), (16, 165), (16, 167), (6, 6), (14, 195), (15, 192), (15, 194), (4, 3), (14, 195), (15, 192), (15, 194), (4, 3)]) (by decide +kernel)
theorem xs_30 : xk_30.all (xSd xTab xnM 30) = true := by decide +kernel
theorem xc_30 : ∀ e ∈ xk_30, xInv e = true → xCat xTab 30 e.1 := fun _ _ _ => xCat_nil rfl rfl
theorem xh_30 : ∀ e ∈ xk_30, xThr e = true → xLk2 xTab 30 e := xThr_none (by decide +kernel)
theorem xd_31 : xDec (method_14_code) xk_31 := xDecW_of (base := 0) (Nat.zero_le _) (by decide +kernel)
theorem xw_31 : ∀ w ∈ xk_31.flatMap (xWd xTab 31), w ∈ tTg xTab := xWB_of (qs := [(13, 134), (13, 135), (13, 136)]) (by decide +kernel)
theorem xs_31 : xk_31.all (xSd xTab xnM 31) = true := by decide +kernel
theorem xc_31 : ∀ e ∈ xk_31, xInv e = true → xCat xTab 31 e.1 := xCat_of (by decide +kernel) (by decide +kernel) (xWB_of (qs := [(13, 99)]) (by decide +kernel))
theorem xh_31 : ∀ e ∈ xk_31, xThr e = true → xLk2 xTab 31 e := xThr_none (by decide +kernel)
theorem xd_32 : xDec (prog_14_method_91_code) xk_32 := xDecW_of (base := 0) (Nat.zero_le _) (by decide +kernel)
theorem xw_32 : ∀ w ∈ xk_32.flatMap (xWd xTab 32), w ∈ tTg xTab := xWB_of (qs := [(14, 195), (14, 194), (14, 194), (16, 124), (16, 126), (6, 0), (14, 195), (14, 195), (14, 195), (15, 231), (15, 233), (4, 8), (14, 213), (14, 213), (16, 177), (16, 179), (6, 7), (14, 195), (14, 195), (16, 149), (16, 150)]) (by decide +kernel)
theorem xs_32 : xk_32.all (xSd xTab xnM 32) = true := by decide +kernel
theorem xc_32 : ∀ e ∈ xk_32, xInv e = true → xCat xTab 32 e.1 := fun _ _ _ => xCat_nil rfl rfl
theorem xh_32 : ∀ e ∈ xk_32, xThr e = true → xLk2 xTab 32 e := xThr_none (by decide +kernel)
theorem xd_33 : xDec (method_15_code) xk_33 := xDecW_of (base := 0) (Nat.zero_le _) (by decide +kernel)
theorem xw_33 : ∀ w ∈ xk_33.flatMap (xWd xTab 33), w ∈ tTg xTab := xWB_of (qs := [(13, 146), (13, 147), (13, 148)]) (by decide +kernel)
theorem xs_33 : xk_33.all (xSd xTab xnM 33) = true := by decide +kernel
theorem xc_33 : ∀ e ∈ xk_33, xInv e = true → xCat xTab 33 e.1 := xCat_of (by decide +kernel) (by decide +kernel) (xWB_of (qs := [(12, 123)]) (by decide +kernel))
theorem xh_33 : ∀ e ∈ xk_33, xThr e = true → xLk2 xTab 33 e := xThr_none (by decide +kernel)
theorem xd_34 : xDec (prog_14_method_92_code) xk_34 := xDecW_of (base := 0) (Nat.zero_le _) (by decide +kernel)
theorem xw_34 : ∀ w ∈ xk_34.flatMap (xWd xTab 34), w ∈ tTg xTab := xWB_of (qs := [(15, 223), (15, 225), (4, 6), (15, 48), (15, 49), (15, 48), (15, 49), (14, 194), (14, 194), (16, 165), (16, 167), (6, 6)]) (by decide +kernel)
theorem xs_34 : xk_34.all (xSd xTab xnM 34) = true := by decide +kernel
theorem xc_34 : ∀ e ∈ xk_34, xInv e = true → xCat xTab 34 e.1 := fun _ _ _ => xCat_nil rfl rfl
theorem xh_34 : ∀ e ∈ xk_34, xThr e = true → xLk2 xTab 34 e := xThr_none (by decide +kernel)
theorem xd_35 : xDec (method_16_code) xk_35 := xDecW_of (base := 0) (Nat.zero_le _) (by decide +kernel)
theorem xw_35 : ∀ w ∈ xk_35.flatMap (xWd xTab 35), w ∈ tTg xTab := xWB_of (qs := [(13, 153), (13, 154), (13, 155)]) (by decide +kernel)
theorem xs_35 : xk_35.all (xSd xTab xnM 35) = true := by decide +kernel
theorem xc_35 : ∀ e ∈ xk_35, xInv e = true → xCat xTab 35 e.1 := xCat_of (by decide +kernel) (by decide +kernel) (xWB_of (qs := [(12, 123), (10, 213)]) (by decide +kernel))
theorem xh_35 : ∀ e ∈ xk_35, xThr e = true → xLk2 xTab 35 e := xThr_none (by decide +kernel)
theorem xd_36 : xDec (prog_14_method_93_code) xk_36 := xDecW_of (base := 0) (Nat.zero_le _) (by decide +kernel)
theorem xw_36 : ∀ w ∈ xk_36.flatMap (xWd xTab 36), w ∈ tTg xTab := xWB_of (qs := [(16, 104), (16, 106), (5, 13), (14, 194), (16, 124), (16, 126), (6, 0), (16, 41), (16, 43), (5, 2), (15, 163), (15, 165), (3, 13)]) (by decide +kernel)
theorem xs_36 : xk_36.all (xSd xTab xnM 36) = true := by decide +kernel
theorem xc_36 : ∀ e ∈ xk_36, xInv e = true → xCat xTab 36 e.1 := fun _ _ _ => xCat_nil rfl rfl
theorem xh_36 : ∀ e ∈ xk_36, xThr e = true → xLk2 xTab 36 e := xThr_none (by decide +kernel)
theorem xd_37 : xDec (method_17_code) xk_37 := xDecW_of (base := 0) (Nat.zero_le _) (by decide +kernel)
theorem xw_37 : ∀ w ∈ xk_37.flatMap (xWd xTab 37), w ∈ tTg xTab := xWB_of (qs := [(13, 161), (13, 162), (13, 163)]) (by decide +kernel)
theorem xs_37 : xk_37.all (xSd xTab xnM 37) = true := by decide +kernel
theorem xc_37 : ∀ e ∈ xk_37, xInv e = true → xCat xTab 37 e.1 := xCat_of (by decide +kernel) (by decide +kernel) (xWB_of (qs := [(12, 123), (10, 213)]) (by decide +kernel))
theorem xh_37 : ∀ e ∈ xk_37, xThr e = true → xLk2 xTab 37 e := xThr_none (by decide +kernel)
theorem xd_38 : xDec (prog_14_method_94_code) xk_38 := xDecW_of (base := 0) (Nat.zero_le _) (by decide +kernel)
theorem xw_38 : ∀ w ∈ xk_38.flatMap (xWd xTab 38), w ∈ tTg xTab := xWB_of (qs := [(15, 223), (15, 225), (4, 6), (15, 48), (15, 49), (14, 194), (14, 194), (16, 165), (16, 167), (6, 6)]) (by decide +kernel)
theorem xs_38 : xk_38.all (xSd xTab xnM 38) = true := by decide +kernel
theorem xc_38 : ∀ e ∈ xk_38, xInv e = true → xCat xTab 38 e.1 := fun _ _ _ => xCat_nil rfl rfl
theorem xh_38 : ∀ e ∈ xk_38, xThr e = true → xLk2 xTab 38 e := xThr_none (by decide +kernel)
theorem xd_39 : xDec (method_18_code) xk_39 := xDecW_of (base := 0) (Nat.zero_le _) (by decide +kernel)
theorem xw_39 : ∀ w ∈ xk_39.flatMap (xWd xTab 39), w ∈ tTg xTab := xWB_of (qs := [(13, 168), (13, 169), (13, 170)]) (by decide +kernel)
theorem xs_39 : xk_39.all (xSd xTab xnM 39) = true := by decide +kernel
theorem xc_39 : ∀ e ∈ xk_39, xInv e = true → xCat xTab 39 e.1 := xCat_of (by decide +kernel) (by decide +kernel) (xWB_of (qs := [(12, 123), (13, 99)]) (by decide +kernel))
theorem xh_39 : ∀ e ∈ xk_39, xThr e = true → xLk2 xTab 39 e := xThr_none (by decide +kernel)
theorem xd_40 : xDec (prog_14_method_95_code) xk_40 := xDecW_of (base := 0) (Nat.zero_le _) (by decide +kernel)
theorem xw_40 : ∀ w ∈ xk_40.flatMap (xWd xTab 40), w ∈ tTg xTab := xWB_of (qs := [(16, 64), (16, 66), (5, 6), (15, 223), (15, 225), (4, 6), (14, 194), (14, 194), (15, 174), (15, 176), (3, 15), (15, 174), (15, 176), (3, 15), (14, 194), (14, 194), (16, 165), (16, 167), (6, 6)]) (by decide +kernel)
theorem xs_40 : xk_40.all (xSd xTab xnM 40) = true := by decide +kernel
theorem xc_40 : ∀ e ∈ xk_40, xInv e = true → xCat xTab 40 e.1 := fun _ _ _ => xCat_nil rfl rfl
theorem xh_40 : ∀ e ∈ xk_40, xThr e = true → xLk2 xTab 40 e := xThr_none (by decide +kernel)
theorem xd_41 : xDec (method_19_code) xk_41 := xDecW_of (base := 0) (Nat.zero_le _) (by decide +kernel)
theorem xw_41 : ∀ w ∈ xk_41.flatMap (xWd xTab 41), w ∈ tTg xTab := xWB_of (qs := [(13, 175), (13, 176), (13, 177)]) (by decide +kernel)
theorem xs_41 : xk_41.all (xSd xTab xnM 41) = true := by decide +kernel
theorem xc_41 : ∀ e ∈ xk_41, xInv e = true → xCat xTab 41 e.1 := xCat_of (by decide +kernel) (by decide +kernel) (xWB_of (qs := [(12, 123)]) (by decide +kernel))
theorem xh_41 : ∀ e ∈ xk_41, xThr e = true → xLk2 xTab 41 e := xThr_none (by decide +kernel)
theorem xd_42 : xDec (prog_14_method_96_code) xk_42 := xDecW_of (base := 0) (Nat.zero_le _) (by decide +kernel)
theorem xw_42 : ∀ w ∈ xk_42.flatMap (xWd xTab 42), w ∈ tTg xTab := xWB_of (qs := [(16, 112), (16, 114), (5, 14), (14, 194), (15, 231), (15, 233), (4, 8), (14, 213)]) (by decide +kernel)
theorem xs_42 : xk_42.all (xSd xTab xnM 42) = true := by decide +kernel
theorem xc_42 : ∀ e ∈ xk_42, xInv e = true → xCat xTab 42 e.1 := fun _ _ _ => xCat_nil rfl rfl
theorem xh_42 : ∀ e ∈ xk_42, xThr e = true → xLk2 xTab 42 e := xThr_none (by decide +kernel)
theorem xd_43 : xDec (method_20_code) xk_43 := xDecW_of (base := 0) (Nat.zero_le _) (by decide +kernel)
theorem xw_43 : ∀ w ∈ xk_43.flatMap (xWd xTab 43), w ∈ tTg xTab := xWB_of (qs := [(13, 182), (13, 183), (13, 184)]) (by decide +kernel)
theorem xs_43 : xk_43.all (xSd xTab xnM 43) = true := by decide +kernel
theorem xc_43 : ∀ e ∈ xk_43, xInv e = true → xCat xTab 43 e.1 := xCat_of (by decide +kernel) (by decide +kernel) (xWB_of (qs := [(12, 123)]) (by decide +kernel))
theorem xh_43 : ∀ e ∈ xk_43, xThr e = true → xLk2 xTab 43 e := xThr_none (by decide +kernel)
theorem xd_44 : xDec (prog_14_method_97_code) xk_44 := xDecW_of (base := 0) (Nat.zero_le _) (by decide +kernel)
theorem xw_44 : ∀ w ∈ xk_44.flatMap (xWd xTab 44), w ∈ tTg xTab := xWB_of (qs := [(16, 112), (16, 114), (5, 14), (14, 194), (15, 231), (15, 233), (4, 8), (14, 213)]) (by decide +kernel)
theorem xs_44 : xk_44.all (xSd xTab xnM 44) = true := by decide +kernel
theorem xc_44 : ∀ e ∈ xk_44, xInv e = true → xCat xTab 44 e.1 := fun _ _ _ => xCat_nil rfl rfl
theorem xh_44 : ∀ e ∈ xk_44, xThr e = true → xLk2 xTab 44 e := xThr_none (by decide +kernel)
theorem xd_45 : xDec (method_21_code) xk_45 := xDecW_of (base := 0) (Nat.zero_le _) (by decide +kernel)
theorem xw_45 : ∀ w ∈ xk_45.flatMap (xWd xTab 45), w ∈ tTg xTab := xWB_of (qs := [(13, 189), (13, 190), (13, 191)]) (by decide +kernel)
theorem xs_45 : xk_45.all (xSd xTab xnM 45) = true := by decide +kernel
theorem xc_45 : ∀ e ∈ xk_45, xInv e = true → xCat xTab 45 e.1 := xCat_of (by decide +kernel) (by decide +kernel) (xWB_of (qs := [(12, 123)]) (by decide +kernel))
theorem xh_45 : ∀ e ∈ xk_45, xThr e = true → xLk2 xTab 45 e := xThr_none (by decide +kernel)
theorem xd_46 : xDec (prog_14_method_98_code) xk_46 := xDecW_of (base := 0) (Nat.zero_le _) (by decide +kernel)
theorem xw_46 : ∀ w ∈ xk_46.flatMap (xWd xTab 46), w ∈ tTg xTab := xWB_of (qs := [(16, 112), (16, 114), (5, 14), (14, 194), (15, 231), (15, 233), (4, 8), (16, 37), (16, 39), (5, 1)]) (by decide +kernel)
theorem xs_46 : xk_46.all (xSd xTab xnM 46) = true := by decide +kernel
theorem xc_46 : ∀ e ∈ xk_46, xInv e = true → xCat xTab 46 e.1 := fun _ _ _ => xCat_nil rfl rfl
theorem xh_46 : ∀ e ∈ xk_46, xThr e = true → xLk2 xTab 46 e := xThr_none (by decide +kernel)
theorem xd_47 : xDec (method_22_code) xk_47 := xDecW_of (base := 0) (Nat.zero_le _) (by decide +kernel)
theorem xw_47 : ∀ w ∈ xk_47.flatMap (xWd xTab 47), w ∈ tTg xTab := xWB_of (qs := [(13, 197), (13, 198), (13, 199)]) (by decide +kernel)
theorem xs_47 : xk_47.all (xSd xTab xnM 47) = true := by decide +kernel
theorem xc_47 : ∀ e ∈ xk_47, xInv e = true → xCat xTab 47 e.1 := xCat_of (by decide +kernel) (by decide +kernel) (xWB_of (qs := [(12, 123)]) (by decide +kernel))
theorem xh_47 : ∀ e ∈ xk_47, xThr e = true → xLk2 xTab 47 e := xThr_none (by decide +kernel)
theorem xd_48 : xDec (prog_14_method_99_code) xk_48 := xDecW_of (base := 0) (Nat.zero_le _) (by decide +kernel)
theorem xw_48 : ∀ w ∈ xk_48.flatMap (xWd xTab 48), w ∈ tTg xTab := xWB_of (qs := [(16, 112), (16, 114), (5, 14), (14, 194), (15, 231), (15, 233), (4, 8), (15, 48), (15, 49), (14, 214)]) (by decide +kernel)
theorem xs_48 : xk_48.all (xSd xTab xnM 48) = true := by decide +kernel
theorem xc_48 : ∀ e ∈ xk_48, xInv e = true → xCat xTab 48 e.1 := fun _ _ _ => xCat_nil rfl rfl
theorem xh_48 : ∀ e ∈ xk_48, xThr e = true → xLk2 xTab 48 e := xThr_none (by decide +kernel)
theorem xd_49 : xDec (method_23_code) xk_49 := xDecW_of (base := 0) (Nat.zero_le _) (by decide +kernel)
theorem xw_49 : ∀ w ∈ xk_49.flatMap (xWd xTab 49), w ∈ tTg xTab := xWB_of (qs := [(13, 211), (13, 212), (13, 213)]) (by decide +kernel)
theorem xs_49 : xk_49.all (xSd xTab xnM 49) = true := by decide +kernel
theorem xc_49 : ∀ e ∈ xk_49, xInv e = true → xCat xTab 49 e.1 := xCat_of (by decide +kernel) (by decide +kernel) (xWB_of (qs := [(12, 123), (10, 213)]) (by decide +kernel))
theorem xh_49 : ∀ e ∈ xk_49, xThr e = true → xLk2 xTab 49 e := xThr_none (by decide +kernel)
theorem xd_50 : xDec (prog_14_method_104_code) xk_50 := xDecW_of (base := 0) (Nat.zero_le _) (by decide +kernel)
theorem xw_50 : ∀ w ∈ xk_50.flatMap (xWd xTab 50), w ∈ tTg xTab := xWB_of (qs := [(15, 223), (15, 225), (4, 6), (16, 217), (16, 219), (6, 8), (14, 194), (16, 225), (16, 227), (6, 10), (14, 216)]) (by decide +kernel)
theorem xs_50 : xk_50.all (xSd xTab xnM 50) = true := by decide +kernel
theorem xc_50 : ∀ e ∈ xk_50, xInv e = true → xCat xTab 50 e.1 := fun _ _ _ => xCat_nil rfl rfl
theorem xh_50 : ∀ e ∈ xk_50, xThr e = true → xLk2 xTab 50 e := xThr_none (by decide +kernel)
theorem xd_51 : xDec (method_24_code) xk_51 := xDecW_of (base := 0) (Nat.zero_le _) (by decide +kernel)
theorem xw_51 : ∀ w ∈ xk_51.flatMap (xWd xTab 51), w ∈ tTg xTab := xWB_of (qs := [(13, 237), (13, 238), (13, 239)]) (by decide +kernel)
theorem xs_51 : xk_51.all (xSd xTab xnM 51) = true := by decide +kernel
theorem xc_51 : ∀ e ∈ xk_51, xInv e = true → xCat xTab 51 e.1 := xCat_of (by decide +kernel) (by decide +kernel) (xWB_of (qs := [(12, 123), (10, 213)]) (by decide +kernel))
theorem xh_51 : ∀ e ∈ xk_51, xThr e = true → xLk2 xTab 51 e := xThr_none (by decide +kernel)
theorem xd_52 : xDec (prog_14_method_107_code) xk_52 := xDecW_of (base := 0) (Nat.zero_le _) (by decide +kernel)
theorem xw_52 : ∀ w ∈ xk_52.flatMap (xWd xTab 52), w ∈ tTg xTab := xWB_of (qs := [(15, 223), (15, 225), (4, 6), (16, 217), (16, 219), (6, 8), (14, 194), (16, 225), (16, 227), (6, 10), (16, 20), (14, 216), (16, 237), (16, 239), (6, 12), (15, 160), (15, 161)]) (by decide +kernel)
theorem xs_52 : xk_52.all (xSd xTab xnM 52) = true := by decide +kernel
theorem xc_52 : ∀ e ∈ xk_52, xInv e = true → xCat xTab 52 e.1 := fun _ _ _ => xCat_nil rfl rfl
theorem xh_52 : ∀ e ∈ xk_52, xThr e = true → xLk2 xTab 52 e := xThr_none (by decide +kernel)
theorem xd_53 : xDec (method_25_code) xk_53 := xDecW_of (base := 0) (Nat.zero_le _) (by decide +kernel)
theorem xw_53 : ∀ w ∈ xk_53.flatMap (xWd xTab 53), w ∈ tTg xTab := xWB_of (qs := [(14, 22), (14, 23), (14, 24)]) (by decide +kernel)
theorem xs_53 : xk_53.all (xSd xTab xnM 53) = true := by decide +kernel
theorem xc_53 : ∀ e ∈ xk_53, xInv e = true → xCat xTab 53 e.1 := xCat_of (by decide +kernel) (by decide +kernel) (xWB_of (qs := [(10, 213)]) (by decide +kernel))
theorem xh_53 : ∀ e ∈ xk_53, xThr e = true → xLk2 xTab 53 e := xThr_none (by decide +kernel)
theorem xd_54 : xDec (prog_14_method_108_code) xk_54 := xDecW_of (base := 0) (Nat.zero_le _) (by decide +kernel)
theorem xw_54 : ∀ w ∈ xk_54.flatMap (xWd xTab 54), w ∈ tTg xTab := xWB_of (qs := [(16, 217), (16, 219), (6, 8), (14, 194), (14, 194), (14, 194), (14, 195), (15, 227), (15, 229), (4, 7), (16, 229), (16, 231), (6, 11)]) (by decide +kernel)
theorem xs_54 : xk_54.all (xSd xTab xnM 54) = true := by decide +kernel
theorem xc_54 : ∀ e ∈ xk_54, xInv e = true → xCat xTab 54 e.1 := fun _ _ _ => xCat_nil rfl rfl
theorem xh_54 : ∀ e ∈ xk_54, xThr e = true → xLk2 xTab 54 e := xThr_none (by decide +kernel)
theorem xd_55 : xDec (method_26_code) xk_55 := xDecW_of (base := 0) (Nat.zero_le _) (by decide +kernel)
theorem xw_55 : ∀ w ∈ xk_55.flatMap (xWd xTab 55), w ∈ tTg xTab := xWB_of (qs := [(14, 30), (14, 31), (14, 32)]) (by decide +kernel)
theorem xs_55 : xk_55.all (xSd xTab xnM 55) = true := by decide +kernel
theorem xc_55 : ∀ e ∈ xk_55, xInv e = true → xCat xTab 55 e.1 := xCat_of (by decide +kernel) (by decide +kernel) (xWB_of (qs := [(12, 123), (10, 213)]) (by decide +kernel))
theorem xh_55 : ∀ e ∈ xk_55, xThr e = true → xLk2 xTab 55 e := xThr_none (by decide +kernel)
theorem xd_56 : xDec (prog_14_method_110_code) xk_56 := xDecW_of (base := 0) (Nat.zero_le _) (by decide +kernel)
theorem xw_56 : ∀ w ∈ xk_56.flatMap (xWd xTab 56), w ∈ tTg xTab := xWB_of (qs := [(16, 104), (16, 106), (5, 13), (14, 194), (17, 13), (17, 15), (6, 14)]) (by decide +kernel)
theorem xs_56 : xk_56.all (xSd xTab xnM 56) = true := by decide +kernel
theorem xc_56 : ∀ e ∈ xk_56, xInv e = true → xCat xTab 56 e.1 := fun _ _ _ => xCat_nil rfl rfl
theorem xh_56 : ∀ e ∈ xk_56, xThr e = true → xLk2 xTab 56 e := xThr_none (by decide +kernel)
theorem xd_57 : xDec (prog_1_method_29_code) xk_57 := xDecW_of (base := 0) (Nat.zero_le _) (by decide +kernel)
theorem xw_57 : ∀ w ∈ xk_57.flatMap (xWd xTab 57), w ∈ tTg xTab := xWB_of (qs := [(9, 180), (9, 168), (10, 6), (10, 7), (10, 8)]) (by decide +kernel)
theorem xs_57 : xk_57.all (xSd xTab xnM 57) = true := by decide +kernel
theorem xc_57 : ∀ e ∈ xk_57, xInv e = true → xCat xTab 57 e.1 := fun _ _ _ => xCat_nil rfl rfl
theorem xh_57 : ∀ e ∈ xk_57, xThr e = true → xLk2 xTab 57 e := xThr_none (by decide +kernel)
theorem xd_58 : xDec (prog_14_method_111_code) xk_58 := xDecW_of (base := 0) (Nat.zero_le _) (by decide +kernel)
theorem xw_58 : ∀ w ∈ xk_58.flatMap (xWd xTab 58), w ∈ tTg xTab := xWB_of (qs := [(14, 194), (14, 195), (14, 195), (17, 13), (17, 15), (6, 14)]) (by decide +kernel)
theorem xs_58 : xk_58.all (xSd xTab xnM 58) = true := by decide +kernel
theorem xc_58 : ∀ e ∈ xk_58, xInv e = true → xCat xTab 58 e.1 := fun _ _ _ => xCat_nil rfl rfl
theorem xh_58 : ∀ e ∈ xk_58, xThr e = true → xLk2 xTab 58 e := xThr_none (by decide +kernel)
theorem xd_59 : xDec (prog_1_method_30_code) xk_59 := xDecW_of (base := 0) (Nat.zero_le _) (by decide +kernel)
theorem xw_59 : ∀ w ∈ xk_59.flatMap (xWd xTab 59), w ∈ tTg xTab := xWB_of (qs := [(9, 180), (9, 168), (10, 75), (10, 76), (10, 77)]) (by decide +kernel)
theorem xs_59 : xk_59.all (xSd xTab xnM 59) = true := by decide +kernel
theorem xc_59 : ∀ e ∈ xk_59, xInv e = true → xCat xTab 59 e.1 := fun _ _ _ => xCat_nil rfl rfl
theorem xh_59 : ∀ e ∈ xk_59, xThr e = true → xLk2 xTab 59 e := xThr_none (by decide +kernel)
theorem xd_60 : xDec (prog_14_method_113_code) xk_60 := xDecW_of (base := 0) (Nat.zero_le _) (by decide +kernel)
theorem xw_60 : ∀ w ∈ xk_60.flatMap (xWd xTab 60), w ∈ tTg xTab := xWB_of (qs := [(14, 194), (14, 195), (14, 195), (15, 192), (15, 194), (4, 3), (16, 149), (16, 150), (15, 192), (15, 194), (4, 3), (16, 149), (16, 150), (17, 33), (17, 35), (7, 1)]) (by decide +kernel)
theorem xs_60 : xk_60.all (xSd xTab xnM 60) = true := by decide +kernel
theorem xc_60 : ∀ e ∈ xk_60, xInv e = true → xCat xTab 60 e.1 := fun _ _ _ => xCat_nil rfl rfl
theorem xh_60 : ∀ e ∈ xk_60, xThr e = true → xLk2 xTab 60 e := xThr_none (by decide +kernel)
theorem xd_61 : xDec (method_27_code) xk_61 := xDecW_of (base := 0) (Nat.zero_le _) (by decide +kernel)
theorem xw_61 : ∀ w ∈ xk_61.flatMap (xWd xTab 61), w ∈ tTg xTab := xWB_of (qs := [(14, 38), (14, 39), (14, 40)]) (by decide +kernel)
theorem xs_61 : xk_61.all (xSd xTab xnM 61) = true := by decide +kernel
theorem xc_61 : ∀ e ∈ xk_61, xInv e = true → xCat xTab 61 e.1 := xCat_of (by decide +kernel) (by decide +kernel) (xWB_of (qs := [(12, 123), (10, 213)]) (by decide +kernel))
theorem xh_61 : ∀ e ∈ xk_61, xThr e = true → xLk2 xTab 61 e := xThr_none (by decide +kernel)
theorem xd_62 : xDec (prog_14_method_114_code) xk_62 := xDecW_of (base := 0) (Nat.zero_le _) (by decide +kernel)
theorem xw_62 : ∀ w ∈ xk_62.flatMap (xWd xTab 62), w ∈ tTg xTab := xWB_of (qs := [(16, 104), (16, 106), (5, 13), (14, 194), (15, 192), (15, 194), (4, 3), (15, 192), (15, 194), (4, 3), (15, 192), (15, 194), (4, 3), (15, 192), (15, 194), (4, 3), (15, 227), (15, 229), (4, 7), (16, 21), (16, 23), (4, 13), (15, 192), (15, 194), (4, 3), (16, 20), (17, 41), (17, 43), (7, 2), (15, 227), (15, 229), (4, 7), (17, 21), (17, 23), (7, 0), (17, 41), (17, 43), (7, 2)]) (by decide +kernel)
theorem xs_62 : xk_62.all (xSd xTab xnM 62) = true := by decide +kernel
theorem xc_62 : ∀ e ∈ xk_62, xInv e = true → xCat xTab 62 e.1 := fun _ _ _ => xCat_nil rfl rfl
theorem xh_62 : ∀ e ∈ xk_62, xThr e = true → xLk2 xTab 62 e := xThr_none (by decide +kernel)
theorem xd_63 : xDec (method_28_code) xk_63 := xDecW_of (base := 0) (Nat.zero_le _) (by decide +kernel)
theorem xw_63 : ∀ w ∈ xk_63.flatMap (xWd xTab 63), w ∈ tTg xTab := xWB_of (qs := [(14, 57), (14, 58), (14, 59)]) (by decide +kernel)
theorem xs_63 : xk_63.all (xSd xTab xnM 63) = true := by decide +kernel
theorem xc_63 : ∀ e ∈ xk_63, xInv e = true → xCat xTab 63 e.1 := xCat_of (by decide +kernel) (by decide +kernel) (xWB_of (qs := [(12, 123)]) (by decide +kernel))
theorem xh_63 : ∀ e ∈ xk_63, xThr e = true → xLk2 xTab 63 e := xThr_none (by decide +kernel)
theorem xd_64 : xDec (prog_14_method_117_code) xk_64 := xDecW_of (base := 0) (Nat.zero_le _) (by decide +kernel)
theorem xw_64 : ∀ w ∈ xk_64.flatMap (xWd xTab 64), w ∈ tTg xTab := xWB_of (qs := [(15, 223), (15, 225), (4, 6), (15, 223), (15, 225), (4, 6), (14, 194), (14, 194), (16, 57), (16, 58), (14, 195), (14, 195), (16, 57), (16, 58), (16, 41), (16, 43), (5, 2)]) (by decide +kernel)
theorem xs_64 : xk_64.all (xSd xTab xnM 64) = true := by decide +kernel
theorem xc_64 : ∀ e ∈ xk_64, xInv e = true → xCat xTab 64 e.1 := fun _ _ _ => xCat_nil rfl rfl
theorem xh_64 : ∀ e ∈ xk_64, xThr e = true → xLk2 xTab 64 e := xThr_none (by decide +kernel)
theorem xd_65 : xDec (method_29_code) xk_65 := xDecW_of (base := 0) (Nat.zero_le _) (by decide +kernel)
theorem xw_65 : ∀ w ∈ xk_65.flatMap (xWd xTab 65), w ∈ tTg xTab := xWB_of (qs := [(14, 65), (14, 66), (14, 67)]) (by decide +kernel)
theorem xs_65 : xk_65.all (xSd xTab xnM 65) = true := by decide +kernel
theorem xc_65 : ∀ e ∈ xk_65, xInv e = true → xCat xTab 65 e.1 := xCat_of (by decide +kernel) (by decide +kernel) (xWB_of (qs := [(12, 123)]) (by decide +kernel))
theorem xh_65 : ∀ e ∈ xk_65, xThr e = true → xLk2 xTab 65 e := xThr_none (by decide +kernel)
theorem xd_66 : xDec (prog_14_method_118_code) xk_66 := xDecW_of (base := 0) (Nat.zero_le _) (by decide +kernel)
theorem xw_66 : ∀ w ∈ xk_66.flatMap (xWd xTab 66), w ∈ tTg xTab := xWB_of (qs := [(15, 223), (15, 225), (4, 6), (14, 194), (14, 194), (17, 53), (17, 55), (7, 3)]) (by decide +kernel)
theorem xs_66 : xk_66.all (xSd xTab xnM 66) = true := by decide +kernel
theorem xc_66 : ∀ e ∈ xk_66, xInv e = true → xCat xTab 66 e.1 := fun _ _ _ => xCat_nil rfl rfl
theorem xh_66 : ∀ e ∈ xk_66, xThr e = true → xLk2 xTab 66 e := xThr_none (by decide +kernel)
theorem xd_67 : xDec (prog_1_method_34_code) xk_67 := xDecW_of (base := 0) (Nat.zero_le _) (by decide +kernel)
theorem xw_67 : ∀ w ∈ xk_67.flatMap (xWd xTab 67), w ∈ tTg xTab := xWB_of (qs := [(9, 168), (8, 129), (9, 168), (8, 129), (9, 168), (10, 90), (10, 91), (10, 92), (9, 168), (10, 90), (10, 91), (10, 92)]) (by decide +kernel)
theorem xs_67 : xk_67.all (xSd xTab xnM 67) = true := by decide +kernel
theorem xc_67 : ∀ e ∈ xk_67, xInv e = true → xCat xTab 67 e.1 := fun _ _ _ => xCat_nil rfl rfl
theorem xh_67 : ∀ e ∈ xk_67, xThr e = true → xLk2 xTab 67 e := xThr_none (by decide +kernel)
theorem xd_68 : xDec (prog_14_method_119_code) xk_68 := xDecW_of (base := 0) (Nat.zero_le _) (by decide +kernel)
theorem xw_68 : ∀ w ∈ xk_68.flatMap (xWd xTab 68), w ∈ tTg xTab := xWB_of (qs := [(14, 194), (14, 195), (14, 195), (17, 53), (17, 55), (7, 3), (17, 53), (17, 55), (7, 3)]) (by decide +kernel)
theorem xs_68 : xk_68.all (xSd xTab xnM 68) = true := by decide +kernel
theorem xc_68 : ∀ e ∈ xk_68, xInv e = true → xCat xTab 68 e.1 := fun _ _ _ => xCat_nil rfl rfl
theorem xh_68 : ∀ e ∈ xk_68, xThr e = true → xLk2 xTab 68 e := xThr_none (by decide +kernel)
theorem xd_69 : xDec (method_30_code) xk_69 := xDecW_of (base := 0) (Nat.zero_le _) (by decide +kernel)
theorem xw_69 : ∀ w ∈ xk_69.flatMap (xWd xTab 69), w ∈ tTg xTab := xWB_of (qs := [(14, 72), (14, 73), (14, 74)]) (by decide +kernel)
theorem xs_69 : xk_69.all (xSd xTab xnM 69) = true := by decide +kernel
theorem xc_69 : ∀ e ∈ xk_69, xInv e = true → xCat xTab 69 e.1 := xCat_of (by decide +kernel) (by decide +kernel) (xWB_of (qs := [(12, 123)]) (by decide +kernel))
theorem xh_69 : ∀ e ∈ xk_69, xThr e = true → xLk2 xTab 69 e := xThr_none (by decide +kernel)
theorem xd_70 : xDec (prog_14_method_121_code) xk_70 := xDecW_of (base := 0) (Nat.zero_le _) (by decide +kernel)
theorem xw_70 : ∀ w ∈ xk_70.flatMap (xWd xTab 70), w ∈ tTg xTab := xWB_of (qs := [(16, 64), (16, 66), (5, 6), (14, 194), (14, 194), (17, 65), (17, 67), (7, 4), (14, 219), (14, 219), (14, 219), (14, 195), (14, 220), (16, 57), (16, 58), (15, 192), (15, 194), (4, 3), (14, 219), (14, 219)]) (by decide +kernel)
theorem xs_70 : xk_70.all (xSd xTab xnM 70) = true := by decide +kernel
theorem xc_70 : ∀ e ∈ xk_70, xInv e = true → xCat xTab 70 e.1 := fun _ _ _ => xCat_nil rfl rfl
theorem xh_70 : ∀ e ∈ xk_70, xThr e = true → xLk2 xTab 70 e := xThr_none (by decide +kernel)
theorem xd_71 : xDec (prog_1_method_36_code) xk_71 := xDecW_of (base := 0) (Nat.zero_le _) (by decide +kernel)
theorem xw_71 : ∀ w ∈ xk_71.flatMap (xWd xTab 71), w ∈ tTg xTab := xWB_of (qs := [(9, 181), (9, 168), (10, 102), (10, 103), (10, 104), (9, 168), (8, 160), (9, 181), (9, 168), (10, 118), (10, 119), (10, 120)]) (by decide +kernel)
theorem xs_71 : xk_71.all (xSd xTab xnM 71) = true := by decide +kernel
theorem xc_71 : ∀ e ∈ xk_71, xInv e = true → xCat xTab 71 e.1 := fun _ _ _ => xCat_nil rfl rfl
theorem xh_71 : ∀ e ∈ xk_71, xThr e = true → xLk2 xTab 71 e := xThr_none (by decide +kernel)
theorem xd_72 : xDec (prog_14_method_122_code) xk_72 := xDecW_of (base := 0) (Nat.zero_le _) (by decide +kernel)
theorem xw_72 : ∀ w ∈ xk_72.flatMap (xWd xTab 72), w ∈ tTg xTab := xWB_of (qs := [(14, 194), (14, 195), (16, 68), (16, 70), (5, 7), (15, 178), (15, 180), (4, 0), (16, 88), (16, 90), (5, 11), (16, 88), (16, 90), (5, 11)]) (by decide +kernel)
theorem xs_72 : xk_72.all (xSd xTab xnM 72) = true := by decide +kernel
theorem xc_72 : ∀ e ∈ xk_72, xInv e = true → xCat xTab 72 e.1 := fun _ _ _ => xCat_nil rfl rfl
theorem xh_72 : ∀ e ∈ xk_72, xThr e = true → xLk2 xTab 72 e := xThr_none (by decide +kernel)
theorem xd_73 : xDec (method_31_code) xk_73 := xDecW_of (base := 0) (Nat.zero_le _) (by decide +kernel)
theorem xw_73 : ∀ w ∈ xk_73.flatMap (xWd xTab 73), w ∈ tTg xTab := xWB_of (qs := [(14, 92), (14, 93), (14, 94)]) (by decide +kernel)
theorem xs_73 : xk_73.all (xSd xTab xnM 73) = true := by decide +kernel
theorem xc_73 : ∀ e ∈ xk_73, xInv e = true → xCat xTab 73 e.1 := xCat_of (by decide +kernel) (by decide +kernel) (xWB_of (qs := [(12, 123), (10, 213)]) (by decide +kernel))
theorem xh_73 : ∀ e ∈ xk_73, xThr e = true → xLk2 xTab 73 e := xThr_none (by decide +kernel)
theorem xd_74 : xDec (prog_14_method_126_code) xk_74 := xDecW_of (base := 0) (Nat.zero_le _) (by decide +kernel)
theorem xw_74 : ∀ w ∈ xk_74.flatMap (xWd xTab 74), w ∈ tTg xTab := xWB_of (qs := [(15, 223), (15, 225), (4, 6), (15, 48), (15, 49), (14, 194), (14, 194), (16, 29), (16, 31), (4, 15)]) (by decide +kernel)
theorem xs_74 : xk_74.all (xSd xTab xnM 74) = true := by decide +kernel
theorem xc_74 : ∀ e ∈ xk_74, xInv e = true → xCat xTab 74 e.1 := fun _ _ _ => xCat_nil rfl rfl
theorem xh_74 : ∀ e ∈ xk_74, xThr e = true → xLk2 xTab 74 e := xThr_none (by decide +kernel)
theorem xd_75 : xDec (method_32_code) xk_75 := xDecW_of (base := 0) (Nat.zero_le _) (by decide +kernel)
theorem xw_75 : ∀ w ∈ xk_75.flatMap (xWd xTab 75), w ∈ tTg xTab := xWB_of (qs := [(14, 100), (14, 101), (14, 102)]) (by decide +kernel)
theorem xs_75 : xk_75.all (xSd xTab xnM 75) = true := by decide +kernel
theorem xc_75 : ∀ e ∈ xk_75, xInv e = true → xCat xTab 75 e.1 := xCat_of (by decide +kernel) (by decide +kernel) (xWB_of (qs := [(12, 123), (10, 213)]) (by decide +kernel))
theorem xh_75 : ∀ e ∈ xk_75, xThr e = true → xLk2 xTab 75 e := xThr_none (by decide +kernel)
theorem xd_76 : xDec (prog_14_method_128_code) xk_76 := xDecW_of (base := 0) (Nat.zero_le _) (by decide +kernel)
theorem xw_76 : ∀ w ∈ xk_76.flatMap (xWd xTab 76), w ∈ tTg xTab := xWB_of (qs := [(16, 64), (16, 66), (5, 6), (16, 64), (16, 66), (5, 6), (15, 223), (15, 225), (4, 6), (14, 194), (14, 194), (17, 81), (17, 83), (7, 5), (17, 81), (17, 83), (7, 5), (17, 81), (17, 83), (7, 5), (17, 81), (17, 83), (7, 5)]) (by decide +kernel)
theorem xs_76 : xk_76.all (xSd xTab xnM 76) = true := by decide +kernel
theorem xc_76 : ∀ e ∈ xk_76, xInv e = true → xCat xTab 76 e.1 := fun _ _ _ => xCat_nil rfl rfl
theorem xh_76 : ∀ e ∈ xk_76, xThr e = true → xLk2 xTab 76 e := xThr_none (by decide +kernel)
theorem xd_77 : xDec (method_33_code) xk_77 := xDecW_of (base := 0) (Nat.zero_le _) (by decide +kernel)
theorem xw_77 : ∀ w ∈ xk_77.flatMap (xWd xTab 77), w ∈ tTg xTab := xWB_of (qs := [(14, 117), (14, 118), (14, 119)]) (by decide +kernel)
theorem xs_77 : xk_77.all (xSd xTab xnM 77) = true := by decide +kernel
theorem xc_77 : ∀ e ∈ xk_77, xInv e = true → xCat xTab 77 e.1 := xCat_of (by decide +kernel) (by decide +kernel) (xWB_of (qs := [(10, 213)]) (by decide +kernel))
theorem xh_77 : ∀ e ∈ xk_77, xThr e = true → xLk2 xTab 77 e := xThr_none (by decide +kernel)
theorem xd_78 : xDec (prog_14_method_129_code) xk_78 := xDecW_of (base := 0) (Nat.zero_le _) (by decide +kernel)
theorem xw_78 : ∀ w ∈ xk_78.flatMap (xWd xTab 78), w ∈ tTg xTab := xWB_of (qs := [(15, 48), (15, 49), (15, 48), (15, 49), (14, 194), (14, 194), (17, 89), (16, 152), (16, 153), (16, 57), (16, 58), (14, 195), (14, 195), (17, 90)]) (by decide +kernel)
theorem xs_78 : xk_78.all (xSd xTab xnM 78) = true := by decide +kernel
theorem xc_78 : ∀ e ∈ xk_78, xInv e = true → xCat xTab 78 e.1 := fun _ _ _ => xCat_nil rfl rfl
theorem xh_78 : ∀ e ∈ xk_78, xThr e = true → xLk2 xTab 78 e := xThr_none (by decide +kernel)
theorem xd_79 : xDec (prog_1_method_40_code) xk_79 := xDecW_of (base := 0) (Nat.zero_le _) (by decide +kernel)
theorem xw_79 : ∀ w ∈ xk_79.flatMap (xWd xTab 79), w ∈ tTg xTab := xWB_of (qs := [(9, 168), (8, 129), (9, 178), (9, 168), (9, 168), (10, 155), (10, 107), (10, 108), (9, 177), (10, 156), (10, 29), (10, 30), (9, 177), (10, 157), (10, 113)]) (by decide +kernel)
theorem xs_79 : xk_79.all (xSd xTab xnM 79) = true := by decide +kernel
theorem xc_79 : ∀ e ∈ xk_79, xInv e = true → xCat xTab 79 e.1 := fun _ _ _ => xCat_nil rfl rfl
theorem xh_79 : ∀ e ∈ xk_79, xThr e = true → xLk2 xTab 79 e := xThr_none (by decide +kernel)
theorem xd_80 : xDec (prog_14_method_130_code) xk_80 := xDecW_of (base := 0) (Nat.zero_le _) (by decide +kernel)
theorem xw_80 : ∀ w ∈ xk_80.flatMap (xWd xTab 80), w ∈ tTg xTab := xWB_of (qs := [(14, 194), (14, 195), (15, 227), (15, 229), (4, 7)]) (by decide +kernel)
theorem xs_80 : xk_80.all (xSd xTab xnM 80) = true := by decide +kernel
theorem xc_80 : ∀ e ∈ xk_80, xInv e = true → xCat xTab 80 e.1 := fun _ _ _ => xCat_nil rfl rfl
theorem xh_80 : ∀ e ∈ xk_80, xThr e = true → xLk2 xTab 80 e := xThr_none (by decide +kernel)
theorem xd_81 : xDec (prog_1_method_41_code) xk_81 := xDecW_of (base := 0) (Nat.zero_le _) (by decide +kernel)
theorem xw_81 : ∀ w ∈ xk_81.flatMap (xWd xTab 81), w ∈ tTg xTab := xWB_of (qs := [(9, 168), (8, 129), (9, 168), (10, 162), (10, 163), (10, 164)]) (by decide +kernel)
theorem xs_81 : xk_81.all (xSd xTab xnM 81) = true := by decide +kernel
theorem xc_81 : ∀ e ∈ xk_81, xInv e = true → xCat xTab 81 e.1 := fun _ _ _ => xCat_nil rfl rfl
theorem xh_81 : ∀ e ∈ xk_81, xThr e = true → xLk2 xTab 81 e := xThr_none (by decide +kernel)
theorem xd_82 : xDec (prog_14_method_131_code) xk_82 := xDecW_of (base := 0) (Nat.zero_le _) (by decide +kernel)
theorem xw_82 : ∀ w ∈ xk_82.flatMap (xWd xTab 82), w ∈ tTg xTab := xWB_of (qs := [(14, 194), (14, 195), (16, 49), (16, 51), (5, 4)]) (by decide +kernel)
theorem xs_82 : xk_82.all (xSd xTab xnM 82) = true := by decide +kernel
theorem xc_82 : ∀ e ∈ xk_82, xInv e = true → xCat xTab 82 e.1 := fun _ _ _ => xCat_nil rfl rfl
theorem xh_82 : ∀ e ∈ xk_82, xThr e = true → xLk2 xTab 82 e := xThr_none (by decide +kernel)
theorem xd_83 : xDec (prog_1_method_42_code) xk_83 := xDecW_of (base := 0) (Nat.zero_le _) (by decide +kernel)
theorem xw_83 : ∀ w ∈ xk_83.flatMap (xWd xTab 83), w ∈ tTg xTab := xWB_of (qs := [(9, 168), (8, 160), (9, 168), (8, 172)]) (by decide +kernel)
theorem xs_83 : xk_83.all (xSd xTab xnM 83) = true := by decide +kernel
theorem xc_83 : ∀ e ∈ xk_83, xInv e = true → xCat xTab 83 e.1 := fun _ _ _ => xCat_nil rfl rfl
theorem xh_83 : ∀ e ∈ xk_83, xThr e = true → xLk2 xTab 83 e := xThr_none (by decide +kernel)
theorem xd_84 : xDec (prog_14_method_132_code) xk_84 := xDecW_of (base := 0) (Nat.zero_le _) (by decide +kernel)
theorem xw_84 : ∀ w ∈ xk_84.flatMap (xWd xTab 84), w ∈ tTg xTab := xWB_of (qs := [(14, 194), (14, 195), (15, 178), (15, 180), (4, 0)]) (by decide +kernel)
theorem xs_84 : xk_84.all (xSd xTab xnM 84) = true := by decide +kernel
theorem xc_84 : ∀ e ∈ xk_84, xInv e = true → xCat xTab 84 e.1 := fun _ _ _ => xCat_nil rfl rfl
theorem xh_84 : ∀ e ∈ xk_84, xThr e = true → xLk2 xTab 84 e := xThr_none (by decide +kernel)
theorem xd_85 : xDec (prog_1_method_43_code) xk_85 := xDecW_of (base := 0) (Nat.zero_le _) (by decide +kernel)
theorem xw_85 : ∀ w ∈ xk_85.flatMap (xWd xTab 85), w ∈ tTg xTab := xWB_of (qs := [(9, 168), (8, 129), (9, 168), (8, 135), (9, 168), (8, 142)]) (by decide +kernel)
theorem xs_85 : xk_85.all (xSd xTab xnM 85) = true := by decide +kernel
theorem xc_85 : ∀ e ∈ xk_85, xInv e = true → xCat xTab 85 e.1 := fun _ _ _ => xCat_nil rfl rfl
theorem xh_85 : ∀ e ∈ xk_85, xThr e = true → xLk2 xTab 85 e := xThr_none (by decide +kernel)
theorem xd_86 : xDec (prog_14_method_134_code) xk_86 := xDecW_of (base := 0) (Nat.zero_le _) (by decide +kernel)
theorem xw_86 : ∀ w ∈ xk_86.flatMap (xWd xTab 86), w ∈ tTg xTab := xWB_of (qs := [(14, 194), (14, 195), (17, 107), (17, 109), (7, 6), (17, 107), (17, 109), (7, 6)]) (by decide +kernel)
theorem xs_86 : xk_86.all (xSd xTab xnM 86) = true := by decide +kernel
theorem xc_86 : ∀ e ∈ xk_86, xInv e = true → xCat xTab 86 e.1 := fun _ _ _ => xCat_nil rfl rfl
theorem xh_86 : ∀ e ∈ xk_86, xThr e = true → xLk2 xTab 86 e := xThr_none (by decide +kernel)
theorem xd_87 : xDec (prog_1_method_44_code) xk_87 := xDecW_of (base := 0) (Nat.zero_le _) (by decide +kernel)
theorem xw_87 : ∀ w ∈ xk_87.flatMap (xWd xTab 87), w ∈ tTg xTab := xWB_of (qs := [(9, 168), (8, 160), (9, 168), (8, 164), (9, 168), (8, 164), (9, 168), (8, 168), (9, 168), (8, 168)]) (by decide +kernel)
theorem xs_87 : xk_87.all (xSd xTab xnM 87) = true := by decide +kernel
theorem xc_87 : ∀ e ∈ xk_87, xInv e = true → xCat xTab 87 e.1 := fun _ _ _ => xCat_nil rfl rfl
theorem xh_87 : ∀ e ∈ xk_87, xThr e = true → xLk2 xTab 87 e := xThr_none (by decide +kernel)
theorem xd_88 : xDec (prog_14_method_135_code) xk_88 := xDecW_of (base := 0) (Nat.zero_le _) (by decide +kernel)
theorem xw_88 : ∀ w ∈ xk_88.flatMap (xWd xTab 88), w ∈ tTg xTab := xWB_of (qs := [(14, 194), (14, 195), (14, 195), (15, 178), (15, 180), (4, 0), (15, 178), (15, 180), (4, 0), (15, 178), (15, 180), (4, 0), (15, 178), (15, 180), (4, 0)]) (by decide +kernel)
theorem xs_88 : xk_88.all (xSd xTab xnM 88) = true := by decide +kernel
theorem xc_88 : ∀ e ∈ xk_88, xInv e = true → xCat xTab 88 e.1 := fun _ _ _ => xCat_nil rfl rfl
theorem xh_88 : ∀ e ∈ xk_88, xThr e = true → xLk2 xTab 88 e := xThr_none (by decide +kernel)
theorem xd_89 : xDec (method_34_code) xk_89 := xDecW_of (base := 0) (Nat.zero_le _) (by decide +kernel)
theorem xw_89 : ∀ w ∈ xk_89.flatMap (xWd xTab 89), w ∈ tTg xTab := xWB_of (qs := [(14, 135), (14, 136), (14, 137)]) (by decide +kernel)
theorem xs_89 : xk_89.all (xSd xTab xnM 89) = true := by decide +kernel
theorem xc_89 : ∀ e ∈ xk_89, xInv e = true → xCat xTab 89 e.1 := xCat_of (by decide +kernel) (by decide +kernel) (xWB_of (qs := [(12, 123)]) (by decide +kernel))
theorem xh_89 : ∀ e ∈ xk_89, xThr e = true → xLk2 xTab 89 e := xThr_none (by decide +kernel)
theorem xd_90 : xDec (prog_14_method_136_code) xk_90 := xDecW_of (base := 0) (Nat.zero_le _) (by decide +kernel)
theorem xw_90 : ∀ w ∈ xk_90.flatMap (xWd xTab 90), w ∈ tTg xTab := xWB_of (qs := [(15, 48), (15, 49), (14, 194), (14, 194), (14, 195), (15, 192), (15, 194), (4, 3)]) (by decide +kernel)
theorem xs_90 : xk_90.all (xSd xTab xnM 90) = true := by decide +kernel
theorem xc_90 : ∀ e ∈ xk_90, xInv e = true → xCat xTab 90 e.1 := fun _ _ _ => xCat_nil rfl rfl
theorem xh_90 : ∀ e ∈ xk_90, xThr e = true → xLk2 xTab 90 e := xThr_none (by decide +kernel)
theorem xd_91 : xDec (method_35_code) xk_91 := xDecW_of (base := 0) (Nat.zero_le _) (by decide +kernel)
theorem xw_91 : ∀ w ∈ xk_91.flatMap (xWd xTab 91), w ∈ tTg xTab := xWB_of (qs := [(14, 142), (14, 143), (14, 144)]) (by decide +kernel)
theorem xs_91 : xk_91.all (xSd xTab xnM 91) = true := by decide +kernel
theorem xc_91 : ∀ e ∈ xk_91, xInv e = true → xCat xTab 91 e.1 := xCat_of (by decide +kernel) (by decide +kernel) (xWB_of (qs := [(12, 123), (10, 213)]) (by decide +kernel))
theorem xh_91 : ∀ e ∈ xk_91, xThr e = true → xLk2 xTab 91 e := xThr_none (by decide +kernel)
theorem xd_92 : xDec (prog_14_method_137_code) xk_92 := xDecW_of (base := 0) (Nat.zero_le _) (by decide +kernel)
theorem xw_92 : ∀ w ∈ xk_92.flatMap (xWd xTab 92), w ∈ tTg xTab := xWB_of (qs := [(16, 64), (16, 66), (5, 6), (15, 48), (15, 49), (14, 194), (14, 194), (15, 55), (15, 57), (2, 8), (16, 128), (16, 130), (6, 1), (15, 178), (15, 180), (4, 0), (15, 207), (15, 209), (4, 5)]) (by decide +kernel)
theorem xs_92 : xk_92.all (xSd xTab xnM 92) = true := by decide +kernel
theorem xc_92 : ∀ e ∈ xk_92, xInv e = true → xCat xTab 92 e.1 := fun _ _ _ => xCat_nil rfl rfl
theorem xh_92 : ∀ e ∈ xk_92, xThr e = true → xLk2 xTab 92 e := xThr_none (by decide +kernel)
theorem xd_93 : xDec (method_36_code) xk_93 := xDecW_of (base := 0) (Nat.zero_le _) (by decide +kernel)
theorem xw_93 : ∀ w ∈ xk_93.flatMap (xWd xTab 93), w ∈ tTg xTab := xWB_of (qs := [(14, 149), (14, 150), (14, 151)]) (by decide +kernel)
theorem xs_93 : xk_93.all (xSd xTab xnM 93) = true := by decide +kernel
theorem xc_93 : ∀ e ∈ xk_93, xInv e = true → xCat xTab 93 e.1 := xCat_of (by decide +kernel) (by decide +kernel) (xWB_of (qs := [(10, 213)]) (by decide +kernel))
theorem xh_93 : ∀ e ∈ xk_93, xThr e = true → xLk2 xTab 93 e := xThr_none (by decide +kernel)
theorem xd_94 : xDec (prog_14_method_138_code) xk_94 := xDecW_of (base := 0) (Nat.zero_le _) (by decide +kernel)
theorem xw_94 : ∀ w ∈ xk_94.flatMap (xWd xTab 94), w ∈ tTg xTab := xWB_of (qs := [(15, 48), (15, 49), (14, 194), (14, 194), (15, 55), (15, 57), (2, 8), (16, 128), (16, 130), (6, 1), (16, 49), (16, 51), (5, 4), (16, 53), (16, 55), (5, 5), (16, 49), (16, 51), (5, 4), (15, 207), (15, 209), (4, 5)]) (by decide +kernel)
theorem xs_94 : xk_94.all (xSd xTab xnM 94) = true := by decide +kernel
theorem xc_94 : ∀ e ∈ xk_94, xInv e = true → xCat xTab 94 e.1 := fun _ _ _ => xCat_nil rfl rfl
theorem xh_94 : ∀ e ∈ xk_94, xThr e = true → xLk2 xTab 94 e := xThr_none (by decide +kernel)
theorem xd_95 : xDec (method_37_code) xk_95 := xDecW_of (base := 0) (Nat.zero_le _) (by decide +kernel)
theorem xw_95 : ∀ w ∈ xk_95.flatMap (xWd xTab 95), w ∈ tTg xTab := xWB_of (qs := [(14, 157), (14, 158), (14, 159)]) (by decide +kernel)
theorem xs_95 : xk_95.all (xSd xTab xnM 95) = true := by decide +kernel
theorem xc_95 : ∀ e ∈ xk_95, xInv e = true → xCat xTab 95 e.1 := xCat_of (by decide +kernel) (by decide +kernel) (xWB_of (qs := [(10, 213)]) (by decide +kernel))
theorem xh_95 : ∀ e ∈ xk_95, xThr e = true → xLk2 xTab 95 e := xThr_none (by decide +kernel)
