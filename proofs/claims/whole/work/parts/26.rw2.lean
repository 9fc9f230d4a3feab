/-! ===== THE ROWS OF METHODS 96 TO 191 ===== -/
theorem xd_96 : xDec (prog_14_method_139_code) xk_96 := xDecW_of (base := 0) (Nat.zero_le _) (by decide +kernel)
theorem xw_96 : ∀ w ∈ xk_96.flatMap (xWd xTab 96), w ∈ tTg xTab := xWB_of (qs := [(15, 48), (15, 49), (14, 194), (14, 194), (15, 55), (15, 57), (2, 8), (14, 195), (16, 128), (16, 130), (6, 1), (16, 49), (16, 51), (5, 4), (16, 152), (16, 153), (15, 207), (15, 209), (4, 5), (15, 160), (15, 161), (16, 149), (16, 150)]) (by decide +kernel)
theorem xs_96 : xk_96.all (xSd xTab xnM 96) = true := by decide +kernel
theorem xc_96 : ∀ e ∈ xk_96, xInv e = true → xCat xTab 96 e.1 := fun _ _ _ => xCat_nil rfl rfl
theorem xh_96 : ∀ e ∈ xk_96, xThr e = true → xLk2 xTab 96 e := xThr_none (by decide +kernel)
theorem xd_97 : xDec (method_38_code) xk_97 := xDecW_of (base := 0) (Nat.zero_le _) (by decide +kernel)
theorem xw_97 : ∀ w ∈ xk_97.flatMap (xWd xTab 97), w ∈ tTg xTab := xWB_of (qs := [(14, 165), (14, 166), (14, 167)]) (by decide +kernel)
theorem xs_97 : xk_97.all (xSd xTab xnM 97) = true := by decide +kernel
theorem xc_97 : ∀ e ∈ xk_97, xInv e = true → xCat xTab 97 e.1 := xCat_of (by decide +kernel) (by decide +kernel) (xWB_of (qs := [(12, 123)]) (by decide +kernel))
theorem xh_97 : ∀ e ∈ xk_97, xThr e = true → xLk2 xTab 97 e := xThr_none (by decide +kernel)
theorem xd_98 : xDec (prog_14_method_141_code) xk_98 := xDecW_of (base := 0) (Nat.zero_le _) (by decide +kernel)
theorem xw_98 : ∀ w ∈ xk_98.flatMap (xWd xTab 98), w ∈ tTg xTab := xWB_of (qs := [(15, 223), (15, 225), (4, 6), (14, 194), (14, 194), (14, 195), (17, 135), (17, 137), (7, 7), (17, 135), (17, 137), (7, 7)]) (by decide +kernel)
theorem xs_98 : xk_98.all (xSd xTab xnM 98) = true := by decide +kernel
theorem xc_98 : ∀ e ∈ xk_98, xInv e = true → xCat xTab 98 e.1 := fun _ _ _ => xCat_nil rfl rfl
theorem xh_98 : ∀ e ∈ xk_98, xThr e = true → xLk2 xTab 98 e := xThr_none (by decide +kernel)
theorem xd_99 : xDec (method_39_code) xk_99 := xDecW_of (base := 0) (Nat.zero_le _) (by decide +kernel)
theorem xw_99 : ∀ w ∈ xk_99.flatMap (xWd xTab 99), w ∈ tTg xTab := xWB_of (qs := [(14, 180), (14, 181), (14, 182)]) (by decide +kernel)
theorem xs_99 : xk_99.all (xSd xTab xnM 99) = true := by decide +kernel
theorem xc_99 : ∀ e ∈ xk_99, xInv e = true → xCat xTab 99 e.1 := xCat_of (by decide +kernel) (by decide +kernel) (xWB_of (qs := [(12, 124)]) (by decide +kernel))
theorem xh_99 : ∀ e ∈ xk_99, xThr e = true → xLk2 xTab 99 e := xThr_none (by decide +kernel)
theorem xd_100 : xDec (prog_14_method_142_code) xk_100 := xDecW_of (base := 0) (Nat.zero_le _) (by decide +kernel)
theorem xw_100 : ∀ w ∈ xk_100.flatMap (xWd xTab 100), w ∈ tTg xTab := xWB_of (qs := [(15, 48), (15, 49), (14, 194), (14, 194), (14, 195), (15, 48), (15, 49), (17, 135), (17, 137), (7, 7)]) (by decide +kernel)
theorem xs_100 : xk_100.all (xSd xTab xnM 100) = true := by decide +kernel
theorem xc_100 : ∀ e ∈ xk_100, xInv e = true → xCat xTab 100 e.1 := fun _ _ _ => xCat_nil rfl rfl
theorem xh_100 : ∀ e ∈ xk_100, xThr e = true → xLk2 xTab 100 e := xThr_none (by decide +kernel)
theorem xd_101 : xDec (prog_1_method_51_code) xk_101 := xDecW_of (base := 0) (Nat.zero_le _) (by decide +kernel)
theorem xw_101 : ∀ w ∈ xk_101.flatMap (xWd xTab 101), w ∈ tTg xTab := xWB_of (qs := [(9, 168), (8, 206), (9, 168), (8, 206)]) (by decide +kernel)
theorem xs_101 : xk_101.all (xSd xTab xnM 101) = true := by decide +kernel
theorem xc_101 : ∀ e ∈ xk_101, xInv e = true → xCat xTab 101 e.1 := fun _ _ _ => xCat_nil rfl rfl
theorem xh_101 : ∀ e ∈ xk_101, xThr e = true → xLk2 xTab 101 e := xThr_none (by decide +kernel)
theorem xd_102 : xDec (prog_14_method_143_code) xk_102 := xDecW_of (base := 0) (Nat.zero_le _) (by decide +kernel)
theorem xw_102 : ∀ w ∈ xk_102.flatMap (xWd xTab 102), w ∈ tTg xTab := xWB_of (qs := [(14, 194), (14, 195), (14, 195)]) (by decide +kernel)
theorem xs_102 : xk_102.all (xSd xTab xnM 102) = true := by decide +kernel
theorem xc_102 : ∀ e ∈ xk_102, xInv e = true → xCat xTab 102 e.1 := fun _ _ _ => xCat_nil rfl rfl
theorem xh_102 : ∀ e ∈ xk_102, xThr e = true → xLk2 xTab 102 e := xThr_none (by decide +kernel)
theorem xd_103 : xDec (prog_1_method_52_code) xk_103 := xDecW_of (base := 0) (Nat.zero_le _) (by decide +kernel)
theorem xw_103 : ∀ w ∈ xk_103.flatMap (xWd xTab 103), w ∈ tTg xTab := xWB_of (qs := [(9, 174), (9, 174), (9, 174), (9, 173), (9, 173), (9, 173), (9, 168), (9, 172), (9, 173), (10, 186), (10, 187), (10, 188)]) (by decide +kernel)
theorem xs_103 : xk_103.all (xSd xTab xnM 103) = true := by decide +kernel
theorem xc_103 : ∀ e ∈ xk_103, xInv e = true → xCat xTab 103 e.1 := fun _ _ _ => xCat_nil rfl rfl
theorem xh_103 : ∀ e ∈ xk_103, xThr e = true → xLk2 xTab 103 e := xThr_none (by decide +kernel)
theorem xd_104 : xDec (prog_14_method_144_code) xk_104 := xDecW_of (base := 0) (Nat.zero_le _) (by decide +kernel)
theorem xw_104 : ∀ w ∈ xk_104.flatMap (xWd xTab 104), w ∈ tTg xTab := xWB_of (qs := [(14, 194), (14, 200), (14, 200), (14, 200), (14, 195), (14, 199), (14, 200)]) (by decide +kernel)
theorem xs_104 : xk_104.all (xSd xTab xnM 104) = true := by decide +kernel
theorem xc_104 : ∀ e ∈ xk_104, xInv e = true → xCat xTab 104 e.1 := fun _ _ _ => xCat_nil rfl rfl
theorem xh_104 : ∀ e ∈ xk_104, xThr e = true → xLk2 xTab 104 e := xThr_none (by decide +kernel)
theorem xd_105 : xDec (prog_1_method_53_code) xk_105 := xDecW_of (base := 0) (Nat.zero_le _) (by decide +kernel)
theorem xw_105 : ∀ w ∈ xk_105.flatMap (xWd xTab 105), w ∈ tTg xTab := xWB_of (qs := [(9, 170), (9, 168), (10, 186), (10, 187), (10, 188), (9, 171)]) (by decide +kernel)
theorem xs_105 : xk_105.all (xSd xTab xnM 105) = true := by decide +kernel
theorem xc_105 : ∀ e ∈ xk_105, xInv e = true → xCat xTab 105 e.1 := fun _ _ _ => xCat_nil rfl rfl
theorem xh_105 : ∀ e ∈ xk_105, xThr e = true → xLk2 xTab 105 e := xThr_none (by decide +kernel)
theorem xd_106 : xDec (prog_14_method_145_code) xk_106 := xDecW_of (base := 0) (Nat.zero_le _) (by decide +kernel)
theorem xw_106 : ∀ w ∈ xk_106.flatMap (xWd xTab 106), w ∈ tTg xTab := xWB_of (qs := [(14, 194), (14, 196), (14, 195), (14, 197)]) (by decide +kernel)
theorem xs_106 : xk_106.all (xSd xTab xnM 106) = true := by decide +kernel
theorem xc_106 : ∀ e ∈ xk_106, xInv e = true → xCat xTab 106 e.1 := fun _ _ _ => xCat_nil rfl rfl
theorem xh_106 : ∀ e ∈ xk_106, xThr e = true → xLk2 xTab 106 e := xThr_none (by decide +kernel)
theorem xd_107 : xDec (prog_1_method_54_code) xk_107 := xDecW_of (base := 0) (Nat.zero_le _) (by decide +kernel)
theorem xw_107 : ∀ w ∈ xk_107.flatMap (xWd xTab 107), w ∈ tTg xTab := xWB_of (qs := [(9, 171), (9, 168), (9, 170), (10, 186), (10, 187), (10, 188), (9, 174)]) (by decide +kernel)
theorem xs_107 : xk_107.all (xSd xTab xnM 107) = true := by decide +kernel
theorem xc_107 : ∀ e ∈ xk_107, xInv e = true → xCat xTab 107 e.1 := fun _ _ _ => xCat_nil rfl rfl
theorem xh_107 : ∀ e ∈ xk_107, xThr e = true → xLk2 xTab 107 e := xThr_none (by decide +kernel)
theorem xd_108 : xDec (prog_14_method_146_code) xk_108 := xDecW_of (base := 0) (Nat.zero_le _) (by decide +kernel)
theorem xw_108 : ∀ w ∈ xk_108.flatMap (xWd xTab 108), w ∈ tTg xTab := xWB_of (qs := [(14, 194), (14, 197), (14, 195), (14, 196), (14, 200)]) (by decide +kernel)
theorem xs_108 : xk_108.all (xSd xTab xnM 108) = true := by decide +kernel
theorem xc_108 : ∀ e ∈ xk_108, xInv e = true → xCat xTab 108 e.1 := fun _ _ _ => xCat_nil rfl rfl
theorem xh_108 : ∀ e ∈ xk_108, xThr e = true → xLk2 xTab 108 e := xThr_none (by decide +kernel)
theorem xd_109 : xDec (prog_1_method_55_code) xk_109 := xDecW_of (base := 0) (Nat.zero_le _) (by decide +kernel)
theorem xw_109 : ∀ w ∈ xk_109.flatMap (xWd xTab 109), w ∈ tTg xTab := xWB_of (qs := [(9, 168), (8, 129), (9, 168), (8, 160), (9, 168), (8, 174), (9, 168), (8, 177), (8, 46), (9, 168), (8, 180), (9, 168), (8, 183), (9, 168), (8, 187), (9, 168), (8, 191), (9, 168), (8, 195), (9, 168), (8, 199), (9, 168), (8, 204), (9, 168), (8, 208), (8, 113), (9, 168), (8, 208), (8, 115), (9, 174)]) (by decide +kernel)
theorem xs_109 : xk_109.all (xSd xTab xnM 109) = true := by decide +kernel
theorem xc_109 : ∀ e ∈ xk_109, xInv e = true → xCat xTab 109 e.1 := fun _ _ _ => xCat_nil rfl rfl
theorem xh_109 : ∀ e ∈ xk_109, xThr e = true → xLk2 xTab 109 e := xThr_none (by decide +kernel)
theorem xd_110 : xDec (prog_14_method_147_code) xk_110 := xDecW_of (base := 0) (Nat.zero_le _) (by decide +kernel)
theorem xw_110 : ∀ w ∈ xk_110.flatMap (xWd xTab 110), w ∈ tTg xTab := xWB_of (qs := [(14, 194), (14, 195), (14, 195), (14, 195), (14, 195), (14, 195), (14, 195), (14, 195), (14, 195), (15, 48), (15, 49), (14, 195), (14, 195), (14, 200)]) (by decide +kernel)
theorem xs_110 : xk_110.all (xSd xTab xnM 110) = true := by decide +kernel
theorem xc_110 : ∀ e ∈ xk_110, xInv e = true → xCat xTab 110 e.1 := fun _ _ _ => xCat_nil rfl rfl
theorem xh_110 : ∀ e ∈ xk_110, xThr e = true → xLk2 xTab 110 e := xThr_none (by decide +kernel)
theorem xd_111 : xDec (prog_4_method_1_code) xk_111 := xDecW_of (base := 0) (Nat.zero_le _) (by decide +kernel)
theorem xw_111 : ∀ w ∈ xk_111.flatMap (xWd xTab 111), w ∈ tTg xTab := xWB_of (qs := [(8, 44), (8, 37), (8, 38), (8, 45), (8, 62), (8, 47), (8, 62), (8, 48), (8, 62), (8, 49), (8, 62), (8, 50)]) (by decide +kernel)
theorem xs_111 : xk_111.all (xSd xTab xnM 111) = true := by decide +kernel
theorem xc_111 : ∀ e ∈ xk_111, xInv e = true → xCat xTab 111 e.1 := fun _ _ _ => xCat_nil rfl rfl
theorem xh_111 : ∀ e ∈ xk_111, xThr e = true → xLk2 xTab 111 e := xThr_none (by decide +kernel)
theorem xd_112 : xDec (prog_12_method_1_code) xk_112 := xDecW_of (base := 0) (Nat.zero_le _) (by decide +kernel)
theorem xw_112 : ∀ w ∈ xk_112.flatMap (xWd xTab 112), w ∈ tTg xTab := xWB_of (qs := [(8, 68), (8, 37), (8, 38), (8, 62), (8, 69), (8, 62), (8, 72), (8, 62), (8, 73), (8, 62), (8, 74)]) (by decide +kernel)
theorem xs_112 : xk_112.all (xSd xTab xnM 112) = true := by decide +kernel
theorem xc_112 : ∀ e ∈ xk_112, xInv e = true → xCat xTab 112 e.1 := fun _ _ _ => xCat_nil rfl rfl
theorem xh_112 : ∀ e ∈ xk_112, xThr e = true → xLk2 xTab 112 e := xThr_none (by decide +kernel)
theorem xd_113 : xDec (prog_11_method_1_code) xk_113 := xDecW_of (base := 0) (Nat.zero_le _) (by decide +kernel)
theorem xw_113 : ∀ w ∈ xk_113.flatMap (xWd xTab 113), w ∈ tTg xTab := xWB_of (qs := [(8, 105), (8, 37), (8, 38), (8, 62), (8, 130), (8, 62), (8, 137), (8, 62), (8, 144), (8, 62), (8, 150), (8, 62), (8, 154), (8, 62), (8, 161), (8, 62), (8, 165), (8, 62), (8, 169), (8, 175), (8, 178), (8, 181), (8, 184), (8, 192), (8, 205), (8, 106), (8, 107), (8, 5), (8, 108), (8, 109), (8, 207)]) (by decide +kernel)
theorem xs_113 : xk_113.all (xSd xTab xnM 113) = true := by decide +kernel
theorem xc_113 : ∀ e ∈ xk_113, xInv e = true → xCat xTab 113 e.1 := fun _ _ _ => xCat_nil rfl rfl
theorem xh_113 : ∀ e ∈ xk_113, xThr e = true → xLk2 xTab 113 e := xThr_none (by decide +kernel)
theorem xd_114 : xDec (prog_3_method_1_code) xk_114 := xDecW_of (base := 0) (Nat.zero_le _) (by decide +kernel)
theorem xw_114 : ∀ w ∈ xk_114.flatMap (xWd xTab 114), w ∈ tTg xTab := xWB_of (qs := [(9, 18), (8, 37), (8, 38), (9, 19)]) (by decide +kernel)
theorem xs_114 : xk_114.all (xSd xTab xnM 114) = true := by decide +kernel
theorem xc_114 : ∀ e ∈ xk_114, xInv e = true → xCat xTab 114 e.1 := fun _ _ _ => xCat_nil rfl rfl
theorem xh_114 : ∀ e ∈ xk_114, xThr e = true → xLk2 xTab 114 e := xThr_none (by decide +kernel)
theorem xd_115 : xDec (prog_5_method_1_code) xk_115 := xDecW_of (base := 0) (Nat.zero_le _) (by decide +kernel)
theorem xw_115 : ∀ w ∈ xk_115.flatMap (xWd xTab 115), w ∈ tTg xTab := xWB_of (qs := [(9, 28), (8, 37), (8, 38), (9, 29), (8, 62), (9, 30), (8, 62), (9, 31), (8, 62), (9, 32), (8, 62), (9, 33)]) (by decide +kernel)
theorem xs_115 : xk_115.all (xSd xTab xnM 115) = true := by decide +kernel
theorem xc_115 : ∀ e ∈ xk_115, xInv e = true → xCat xTab 115 e.1 := fun _ _ _ => xCat_nil rfl rfl
theorem xh_115 : ∀ e ∈ xk_115, xThr e = true → xLk2 xTab 115 e := xThr_none (by decide +kernel)
theorem xd_116 : xDec (prog_10_method_1_code) xk_116 := xDecW_of (base := 0) (Nat.zero_le _) (by decide +kernel)
theorem xw_116 : ∀ w ∈ xk_116.flatMap (xWd xTab 116), w ∈ tTg xTab := xWB_of (qs := [(9, 56), (8, 37), (8, 38), (8, 62), (9, 61)]) (by decide +kernel)
theorem xs_116 : xk_116.all (xSd xTab xnM 116) = true := by decide +kernel
theorem xc_116 : ∀ e ∈ xk_116, xInv e = true → xCat xTab 116 e.1 := fun _ _ _ => xCat_nil rfl rfl
theorem xh_116 : ∀ e ∈ xk_116, xThr e = true → xLk2 xTab 116 e := xThr_none (by decide +kernel)
theorem xd_117 : xDec (prog_9_method_1_code) xk_117 := xDecW_of (base := 0) (Nat.zero_le _) (by decide +kernel)
theorem xw_117 : ∀ w ∈ xk_117.flatMap (xWd xTab 117), w ∈ tTg xTab := xWB_of (qs := [(9, 87), (8, 37), (8, 38), (9, 90), (9, 88), (8, 62), (9, 91), (8, 62), (9, 92), (9, 106), (9, 93), (8, 62), (9, 94)]) (by decide +kernel)
theorem xs_117 : xk_117.all (xSd xTab xnM 117) = true := by decide +kernel
theorem xc_117 : ∀ e ∈ xk_117, xInv e = true → xCat xTab 117 e.1 := fun _ _ _ => xCat_nil rfl rfl
theorem xh_117 : ∀ e ∈ xk_117, xThr e = true → xLk2 xTab 117 e := xThr_none (by decide +kernel)
theorem xd_118 : xDec (prog_7_method_1_code) xk_118 := xDecW_of (base := 0) (Nat.zero_le _) (by decide +kernel)
theorem xw_118 : ∀ w ∈ xk_118.flatMap (xWd xTab 118), w ∈ tTg xTab := xWB_of (qs := [(9, 112), (8, 37), (8, 38), (9, 114), (9, 113), (8, 62), (9, 115), (8, 62), (9, 116)]) (by decide +kernel)
theorem xs_118 : xk_118.all (xSd xTab xnM 118) = true := by decide +kernel
theorem xc_118 : ∀ e ∈ xk_118, xInv e = true → xCat xTab 118 e.1 := fun _ _ _ => xCat_nil rfl rfl
theorem xh_118 : ∀ e ∈ xk_118, xThr e = true → xLk2 xTab 118 e := xThr_none (by decide +kernel)
theorem xd_119 : xDec (prog_6_method_1_code) xk_119 := xDecW_of (base := 0) (Nat.zero_le _) (by decide +kernel)
theorem xw_119 : ∀ w ∈ xk_119.flatMap (xWd xTab 119), w ∈ tTg xTab := xWB_of (qs := [(9, 129), (8, 37), (8, 38), (9, 131), (8, 62), (9, 132), (8, 62), (9, 133), (8, 62), (9, 134), (8, 62), (9, 135), (9, 130), (8, 62), (9, 136), (8, 62), (9, 137), (8, 62), (9, 138)]) (by decide +kernel)
theorem xs_119 : xk_119.all (xSd xTab xnM 119) = true := by decide +kernel
theorem xc_119 : ∀ e ∈ xk_119, xInv e = true → xCat xTab 119 e.1 := fun _ _ _ => xCat_nil rfl rfl
theorem xh_119 : ∀ e ∈ xk_119, xThr e = true → xLk2 xTab 119 e := xThr_none (by decide +kernel)
theorem xd_120 : xDec (prog_2_method_1_code) xk_120 := xDecW_of (base := 0) (Nat.zero_le _) (by decide +kernel)
theorem xw_120 : ∀ w ∈ xk_120.flatMap (xWd xTab 120), w ∈ tTg xTab := xWB_of (qs := [(9, 161), (8, 37), (8, 38), (9, 162)]) (by decide +kernel)
theorem xs_120 : xk_120.all (xSd xTab xnM 120) = true := by decide +kernel
theorem xc_120 : ∀ e ∈ xk_120, xInv e = true → xCat xTab 120 e.1 := fun _ _ _ => xCat_nil rfl rfl
theorem xh_120 : ∀ e ∈ xk_120, xThr e = true → xLk2 xTab 120 e := xThr_none (by decide +kernel)
theorem xd_121 : xDec (prog_12_method_2_code) xk_121 := xDecW_of (base := 0) (Nat.zero_le _) (by decide +kernel)
theorem xw_121 : ∀ w ∈ xk_121.flatMap (xWd xTab 121), w ∈ tTg xTab := xWB_of (qs := [(8, 70)]) (by decide +kernel)
theorem xs_121 : xk_121.all (xSd xTab xnM 121) = true := by decide +kernel
theorem xc_121 : ∀ e ∈ xk_121, xInv e = true → xCat xTab 121 e.1 := fun _ _ _ => xCat_nil rfl rfl
theorem xh_121 : ∀ e ∈ xk_121, xThr e = true → xLk2 xTab 121 e := xThr_none (by decide +kernel)
theorem xd_122 : xDec (prog_12_method_3_code) xk_122 := xDecW_of (base := 0) (Nat.zero_le _) (by decide +kernel)
theorem xw_122 : ∀ w ∈ xk_122.flatMap (xWd xTab 122), w ∈ tTg xTab := xWB_of (qs := [(8, 70), (8, 69), (8, 70), (8, 70), (8, 70)]) (by decide +kernel)
theorem xs_122 : xk_122.all (xSd xTab xnM 122) = true := by decide +kernel
theorem xc_122 : ∀ e ∈ xk_122, xInv e = true → xCat xTab 122 e.1 := fun _ _ _ => xCat_nil rfl rfl
theorem xh_122 : ∀ e ∈ xk_122, xThr e = true → xLk2 xTab 122 e := xThr_none (by decide +kernel)
theorem xd_123 : xDec (prog_12_method_4_code) xk_123 := xDecW_of (base := 0) (Nat.zero_le _) (by decide +kernel)
theorem xw_123 : ∀ w ∈ xk_123.flatMap (xWd xTab 123), w ∈ tTg xTab := xWB_of (qs := [(8, 70), (8, 70)]) (by decide +kernel)
theorem xs_123 : xk_123.all (xSd xTab xnM 123) = true := by decide +kernel
theorem xc_123 : ∀ e ∈ xk_123, xInv e = true → xCat xTab 123 e.1 := fun _ _ _ => xCat_nil rfl rfl
theorem xh_123 : ∀ e ∈ xk_123, xThr e = true → xLk2 xTab 123 e := xThr_none (by decide +kernel)
theorem xd_124 : xDec (prog_14_method_3_code) xk_124 := xDecW_of (base := 0) (Nat.zero_le _) (by decide +kernel)
theorem xw_124 : ∀ w ∈ xk_124.flatMap (xWd xTab 124), w ∈ tTg xTab := xWB_of (qs := []) (by decide +kernel)
theorem xs_124 : xk_124.all (xSd xTab xnM 124) = true := by decide +kernel
theorem xc_124 : ∀ e ∈ xk_124, xInv e = true → xCat xTab 124 e.1 := fun _ _ _ => xCat_nil rfl rfl
theorem xh_124 : ∀ e ∈ xk_124, xThr e = true → xLk2 xTab 124 e := xThr_none (by decide +kernel)
theorem xd_125 : xDec (prog_1_method_4_code) xk_125 := xDecW_of (base := 0) (Nat.zero_le _) (by decide +kernel)
theorem xw_125 : ∀ w ∈ xk_125.flatMap (xWd xTab 125), w ∈ tTg xTab := xWB_of (qs := [(9, 169), (9, 168), (10, 186), (10, 187), (10, 188), (9, 175), (9, 169), (10, 219), (10, 220), (10, 221), (9, 166), (11, 196), (11, 197), (11, 198), (9, 167), (9, 166), (9, 234), (9, 235), (9, 236), (9, 168), (8, 174), (9, 168), (9, 169), (10, 186), (10, 187), (10, 188), (9, 168), (8, 174), (8, 174), (9, 174), (9, 168), (8, 174)]) (by decide +kernel)
theorem xs_125 : xk_125.all (xSd xTab xnM 125) = true := by decide +kernel
theorem xc_125 : ∀ e ∈ xk_125, xInv e = true → xCat xTab 125 e.1 := fun _ _ _ => xCat_nil rfl rfl
theorem xh_125_55 : xLk2 xTab 125 (55, .new 128, 3, 0, 0, 1, 0) := ⟨130, by decide +kernel, by decide +kernel, by decide +kernel, by decide, rfl, rfl, by decide +kernel, xt_0⟩
theorem xh_125_75 : xLk2 xTab 125 (75, .new 134, 3, 3, 0, 1, 0) := ⟨136, by decide +kernel, by decide +kernel, by decide +kernel, by decide, rfl, rfl, by decide +kernel, xt_1⟩
theorem xh_125 : ∀ e ∈ xk_125, xThr e = true → xLk2 xTab 125 e := by
  intro e he ht
  have h : xk_125.filter xThr = [(55, .new 128, 3, 0, 0, 1, 0), (75, .new 134, 3, 3, 0, 1, 0)] := by rfl
  have h2 := List.mem_filter.mpr ⟨he, ht⟩
  rw [h] at h2
  simp only [List.mem_cons, List.not_mem_nil, or_false] at h2
  rcases h2 with h2 | h2
  · rw [h2]; exact xh_125_55
  · rw [h2]; exact xh_125_75
theorem xd_126 : xDec (prog_14_method_37_code) xk_126 := xDecW_of (base := 0) (Nat.zero_le _) (by decide +kernel)
theorem xw_126 : ∀ w ∈ xk_126.flatMap (xWd xTab 126), w ∈ tTg xTab := xWB_of (qs := [(14, 198), (14, 195)]) (by decide +kernel)
theorem xs_126 : xk_126.all (xSd xTab xnM 126) = true := by decide +kernel
theorem xc_126 : ∀ e ∈ xk_126, xInv e = true → xCat xTab 126 e.1 := fun _ _ _ => xCat_nil rfl rfl
theorem xh_126 : ∀ e ∈ xk_126, xThr e = true → xLk2 xTab 126 e := xThr_none (by decide +kernel)
theorem xd_127 : xDec (prog_14_method_35_code) xk_127 := xDecW_of (base := 0) (Nat.zero_le _) (by decide +kernel)
theorem xw_127 : ∀ w ∈ xk_127.flatMap (xWd xTab 127), w ∈ tTg xTab := xWB_of (qs := [(14, 206), (14, 203), (14, 202), (14, 204), (14, 202), (14, 205), (14, 207)]) (by decide +kernel)
theorem xs_127 : xk_127.all (xSd xTab xnM 127) = true := by decide +kernel
theorem xc_127 : ∀ e ∈ xk_127, xInv e = true → xCat xTab 127 e.1 := fun _ _ _ => xCat_nil rfl rfl
theorem xh_127 : ∀ e ∈ xk_127, xThr e = true → xLk2 xTab 127 e := xThr_none (by decide +kernel)
theorem xd_128 : xDec (prog_14_method_36_code) xk_128 := xDecW_of (base := 0) (Nat.zero_le _) (by decide +kernel)
theorem xw_128 : ∀ w ∈ xk_128.flatMap (xWd xTab 128), w ∈ tTg xTab := xWB_of (qs := [(15, 67), (15, 69), (2, 11), (14, 205), (14, 204), (14, 206), (15, 67), (15, 69), (2, 11), (14, 205), (15, 75), (15, 77), (2, 13), (15, 79), (15, 81), (2, 14), (15, 142), (15, 144), (3, 9), (15, 67), (15, 69), (2, 11), (14, 206), (14, 205), (14, 204), (15, 114), (15, 116), (3, 5), (14, 205), (14, 205), (14, 205), (15, 75), (15, 77), (2, 13)]) (by decide +kernel)
theorem xs_128 : xk_128.all (xSd xTab xnM 128) = true := by decide +kernel
theorem xc_128 : ∀ e ∈ xk_128, xInv e = true → xCat xTab 128 e.1 := fun _ _ _ => xCat_nil rfl rfl
theorem xh_128 : ∀ e ∈ xk_128, xThr e = true → xLk2 xTab 128 e := xThr_none (by decide +kernel)
theorem xd_129 : xDec (prog_14_method_38_code) xk_129 := xDecW_of (base := 0) (Nat.zero_le _) (by decide +kernel)
theorem xw_129 : ∀ w ∈ xk_129.flatMap (xWd xTab 129), w ∈ tTg xTab := xWB_of (qs := [(14, 195), (14, 198)]) (by decide +kernel)
theorem xs_129 : xk_129.all (xSd xTab xnM 129) = true := by decide +kernel
theorem xc_129 : ∀ e ∈ xk_129, xInv e = true → xCat xTab 129 e.1 := fun _ _ _ => xCat_nil rfl rfl
theorem xh_129 : ∀ e ∈ xk_129, xThr e = true → xLk2 xTab 129 e := xThr_none (by decide +kernel)
theorem xd_130 : xDec (prog_1_method_5_code) xk_130 := xDecW_of (base := 0) (Nat.zero_le _) (by decide +kernel)
theorem xw_130 : ∀ w ∈ xk_130.flatMap (xWd xTab 130), w ∈ tTg xTab := xWB_of (qs := [(9, 176), (12, 48), (12, 49), (12, 50), (9, 166), (11, 196), (11, 197), (11, 198), (9, 167), (9, 166), (9, 234), (9, 235), (9, 236), (9, 168), (9, 176), (12, 100), (12, 101), (12, 102), (8, 177), (9, 174), (9, 168), (8, 177), (8, 46)]) (by decide +kernel)
theorem xs_130 : xk_130.all (xSd xTab xnM 130) = true := by decide +kernel
theorem xc_130 : ∀ e ∈ xk_130, xInv e = true → xCat xTab 130 e.1 := fun _ _ _ => xCat_nil rfl rfl
theorem xh_130_40 : xLk2 xTab 130 (40, .new 128, 3, 0, 0, 1, 0) := ⟨130, by decide +kernel, by decide +kernel, by decide +kernel, by decide, rfl, rfl, by decide +kernel, xt_0⟩
theorem xh_130 : ∀ e ∈ xk_130, xThr e = true → xLk2 xTab 130 e := by
  intro e he ht
  have h : xk_130.filter xThr = [(40, .new 128, 3, 0, 0, 1, 0)] := by rfl
  have h2 := List.mem_filter.mpr ⟨he, ht⟩
  rw [h] at h2
  simp only [List.mem_cons, List.not_mem_nil, or_false] at h2
  rcases h2 with h2
  · rw [h2]; exact xh_130_40
theorem xd_131 : xDec (prog_1_method_7_code) xk_131 := xDecW_of (base := 0) (Nat.zero_le _) (by decide +kernel)
theorem xw_131 : ∀ w ∈ xk_131.flatMap (xWd xTab 131), w ∈ tTg xTab := xWB_of (qs := [(12, 129), (12, 131), (1, 6), (9, 168), (8, 135), (9, 168), (8, 142), (9, 168), (8, 148), (9, 168), (8, 153), (9, 168), (12, 148), (11, 154), (11, 155), (9, 178), (9, 168), (9, 168), (10, 155), (10, 107), (10, 108), (9, 177), (10, 156), (10, 29), (10, 30), (9, 177), (10, 157), (10, 113), (9, 179), (9, 168), (12, 149), (12, 150), (12, 151), (9, 179), (9, 168), (12, 168), (12, 169), (12, 170), (9, 169), (9, 168), (10, 186), (10, 187), (10, 188), (9, 180), (9, 169), (12, 172), (12, 173), (12, 174), (9, 181), (9, 168), (10, 102), (10, 103), (10, 104), (9, 181), (9, 168), (12, 180), (12, 181), (12, 182), (9, 181), (9, 168), (12, 188), (12, 189), (12, 190)]) (by decide +kernel)
theorem xs_131 : xk_131.all (xSd xTab xnM 131) = true := by decide +kernel
theorem xc_131 : ∀ e ∈ xk_131, xInv e = true → xCat xTab 131 e.1 := fun _ _ _ => xCat_nil rfl rfl
theorem xh_131_250 : xLk2 xTab 131 (250, .new 202, 3, 4, 0, 1, 0) := ⟨204, by decide +kernel, by decide +kernel, by decide +kernel, by decide, rfl, rfl, by decide +kernel, xt_2⟩
theorem xh_131 : ∀ e ∈ xk_131, xThr e = true → xLk2 xTab 131 e := by
  intro e he ht
  have h : xk_131.filter xThr = [(250, .new 202, 3, 4, 0, 1, 0)] := by rfl
  have h2 := List.mem_filter.mpr ⟨he, ht⟩
  rw [h] at h2
  simp only [List.mem_cons, List.not_mem_nil, or_false] at h2
  rcases h2 with h2
  · rw [h2]; exact xh_131_250
theorem xd_132 : xDec (prog_14_method_10_code) xk_132 := xDecW_of (base := 0) (Nat.zero_le _) (by decide +kernel)
theorem xw_132 : ∀ w ∈ xk_132.flatMap (xWd xTab 132), w ∈ tTg xTab := xWB_of (qs := [(14, 195), (15, 48), (15, 49)]) (by decide +kernel)
theorem xs_132 : xk_132.all (xSd xTab xnM 132) = true := by decide +kernel
theorem xc_132 : ∀ e ∈ xk_132, xInv e = true → xCat xTab 132 e.1 := fun _ _ _ => xCat_nil rfl rfl
theorem xh_132 : ∀ e ∈ xk_132, xThr e = true → xLk2 xTab 132 e := xThr_none (by decide +kernel)
theorem xd_133 : xDec (prog_14_method_8_code) xk_133 := xDecW_of (base := 0) (Nat.zero_le _) (by decide +kernel)
theorem xw_133 : ∀ w ∈ xk_133.flatMap (xWd xTab 133), w ∈ tTg xTab := xWB_of (qs := [(14, 195)]) (by decide +kernel)
theorem xs_133 : xk_133.all (xSd xTab xnM 133) = true := by decide +kernel
theorem xc_133 : ∀ e ∈ xk_133, xInv e = true → xCat xTab 133 e.1 := fun _ _ _ => xCat_nil rfl rfl
theorem xh_133 : ∀ e ∈ xk_133, xThr e = true → xLk2 xTab 133 e := xThr_none (by decide +kernel)
theorem xd_134 : xDec (prog_14_method_15_code) xk_134 := xDecW_of (base := 0) (Nat.zero_le _) (by decide +kernel)
theorem xw_134 : ∀ w ∈ xk_134.flatMap (xWd xTab 134), w ∈ tTg xTab := xWB_of (qs := [(14, 195), (15, 178), (15, 180), (4, 0)]) (by decide +kernel)
theorem xs_134 : xk_134.all (xSd xTab xnM 134) = true := by decide +kernel
theorem xc_134 : ∀ e ∈ xk_134, xInv e = true → xCat xTab 134 e.1 := fun _ _ _ => xCat_nil rfl rfl
theorem xh_134 : ∀ e ∈ xk_134, xThr e = true → xLk2 xTab 134 e := xThr_none (by decide +kernel)
theorem xd_135 : xDec (prog_14_method_53_code) xk_135 := xDecW_of (base := 0) (Nat.zero_le _) (by decide +kernel)
theorem xw_135 : ∀ w ∈ xk_135.flatMap (xWd xTab 135), w ∈ tTg xTab := xWB_of (qs := [(15, 192), (15, 194), (4, 3), (15, 192), (15, 194), (4, 3), (15, 231), (15, 233), (4, 8)]) (by decide +kernel)
theorem xs_135 : xk_135.all (xSd xTab xnM 135) = true := by decide +kernel
theorem xc_135 : ∀ e ∈ xk_135, xInv e = true → xCat xTab 135 e.1 := fun _ _ _ => xCat_nil rfl rfl
theorem xh_135 : ∀ e ∈ xk_135, xThr e = true → xLk2 xTab 135 e := xThr_none (by decide +kernel)
theorem xd_136 : xDec (prog_14_method_69_code) xk_136 := xDecW_of (base := 0) (Nat.zero_le _) (by decide +kernel)
theorem xw_136 : ∀ w ∈ xk_136.flatMap (xWd xTab 136), w ∈ tTg xTab := xWB_of (qs := [(15, 192), (15, 194), (4, 3), (15, 192), (15, 194), (4, 3), (15, 231), (15, 233), (4, 8)]) (by decide +kernel)
theorem xs_136 : xk_136.all (xSd xTab xnM 136) = true := by decide +kernel
theorem xc_136 : ∀ e ∈ xk_136, xInv e = true → xCat xTab 136 e.1 := fun _ _ _ => xCat_nil rfl rfl
theorem xh_136 : ∀ e ∈ xk_136, xThr e = true → xLk2 xTab 136 e := xThr_none (by decide +kernel)
theorem xd_137 : xDec (prog_14_method_70_code) xk_137 := xDecW_of (base := 0) (Nat.zero_le _) (by decide +kernel)
theorem xw_137 : ∀ w ∈ xk_137.flatMap (xWd xTab 137), w ∈ tTg xTab := xWB_of (qs := [(15, 192), (15, 194), (4, 3), (15, 192), (15, 194), (4, 3), (15, 231), (15, 233), (4, 8)]) (by decide +kernel)
theorem xs_137 : xk_137.all (xSd xTab xnM 137) = true := by decide +kernel
theorem xc_137 : ∀ e ∈ xk_137, xInv e = true → xCat xTab 137 e.1 := fun _ _ _ => xCat_nil rfl rfl
theorem xh_137 : ∀ e ∈ xk_137, xThr e = true → xLk2 xTab 137 e := xThr_none (by decide +kernel)
theorem xd_138 : xDec (prog_14_method_71_code) xk_138 := xDecW_of (base := 0) (Nat.zero_le _) (by decide +kernel)
theorem xw_138 : ∀ w ∈ xk_138.flatMap (xWd xTab 138), w ∈ tTg xTab := xWB_of (qs := [(16, 20), (15, 227), (15, 229), (4, 7), (16, 21), (16, 23), (4, 13), (15, 192), (15, 194), (4, 3), (14, 195), (15, 227), (15, 229), (4, 7), (14, 195), (14, 213), (14, 215)]) (by decide +kernel)
theorem xs_138 : xk_138.all (xSd xTab xnM 138) = true := by decide +kernel
theorem xc_138 : ∀ e ∈ xk_138, xInv e = true → xCat xTab 138 e.1 := fun _ _ _ => xCat_nil rfl rfl
theorem xh_138 : ∀ e ∈ xk_138, xThr e = true → xLk2 xTab 138 e := xThr_none (by decide +kernel)
theorem xd_139 : xDec (prog_14_method_73_code) xk_139 := xDecW_of (base := 0) (Nat.zero_le _) (by decide +kernel)
theorem xw_139 : ∀ w ∈ xk_139.flatMap (xWd xTab 139), w ∈ tTg xTab := xWB_of (qs := [(16, 29), (16, 31), (4, 15), (16, 29), (16, 31), (4, 15)]) (by decide +kernel)
theorem xs_139 : xk_139.all (xSd xTab xnM 139) = true := by decide +kernel
theorem xc_139 : ∀ e ∈ xk_139, xInv e = true → xCat xTab 139 e.1 := fun _ _ _ => xCat_nil rfl rfl
theorem xh_139 : ∀ e ∈ xk_139, xThr e = true → xLk2 xTab 139 e := xThr_none (by decide +kernel)
theorem xd_140 : xDec (prog_14_method_74_code) xk_140 := xDecW_of (base := 0) (Nat.zero_le _) (by decide +kernel)
theorem xw_140 : ∀ w ∈ xk_140.flatMap (xWd xTab 140), w ∈ tTg xTab := xWB_of (qs := [(16, 49), (16, 51), (5, 4), (16, 53), (16, 55), (5, 5), (15, 174), (15, 176), (3, 15), (15, 192), (15, 194), (4, 3)]) (by decide +kernel)
theorem xs_140 : xk_140.all (xSd xTab xnM 140) = true := by decide +kernel
theorem xc_140 : ∀ e ∈ xk_140, xInv e = true → xCat xTab 140 e.1 := fun _ _ _ => xCat_nil rfl rfl
theorem xh_140 : ∀ e ∈ xk_140, xThr e = true → xLk2 xTab 140 e := xThr_none (by decide +kernel)
theorem xd_141 : xDec (prog_1_method_8_code) xk_141 := xDecW_of (base := 0) (Nat.zero_le _) (by decide +kernel)
theorem xw_141 : ∀ w ∈ xk_141.flatMap (xWd xTab 141), w ∈ tTg xTab := xWB_of (qs := [(12, 220), (12, 222), (1, 8), (9, 168), (8, 164), (9, 168), (8, 168), (9, 168), (8, 172), (9, 181), (9, 168), (10, 102), (10, 103), (10, 104), (9, 181), (9, 168), (12, 224), (12, 225), (12, 226), (9, 181), (9, 168), (10, 102), (10, 103), (10, 104), (9, 181), (9, 168), (12, 228), (12, 229), (12, 230)]) (by decide +kernel)
theorem xs_141 : xk_141.all (xSd xTab xnM 141) = true := by decide +kernel
theorem xc_141 : ∀ e ∈ xk_141, xInv e = true → xCat xTab 141 e.1 := fun _ _ _ => xCat_nil rfl rfl
theorem xh_141_118 : xLk2 xTab 141 (118, .new 202, 3, 4, 0, 1, 0) := ⟨204, by decide +kernel, by decide +kernel, by decide +kernel, by decide, rfl, rfl, by decide +kernel, xt_2⟩
theorem xh_141 : ∀ e ∈ xk_141, xThr e = true → xLk2 xTab 141 e := by
  intro e he ht
  have h : xk_141.filter xThr = [(118, .new 202, 3, 4, 0, 1, 0)] := by rfl
  have h2 := List.mem_filter.mpr ⟨he, ht⟩
  rw [h] at h2
  simp only [List.mem_cons, List.not_mem_nil, or_false] at h2
  rcases h2 with h2
  · rw [h2]; exact xh_141_118
theorem xd_142 : xDec (prog_14_method_11_code) xk_142 := xDecW_of (base := 0) (Nat.zero_le _) (by decide +kernel)
theorem xw_142 : ∀ w ∈ xk_142.flatMap (xWd xTab 142), w ∈ tTg xTab := xWB_of (qs := [(14, 195), (15, 48), (15, 49)]) (by decide +kernel)
theorem xs_142 : xk_142.all (xSd xTab xnM 142) = true := by decide +kernel
theorem xc_142 : ∀ e ∈ xk_142, xInv e = true → xCat xTab 142 e.1 := fun _ _ _ => xCat_nil rfl rfl
theorem xh_142 : ∀ e ∈ xk_142, xThr e = true → xLk2 xTab 142 e := xThr_none (by decide +kernel)
theorem xd_143 : xDec (prog_14_method_9_code) xk_143 := xDecW_of (base := 0) (Nat.zero_le _) (by decide +kernel)
theorem xw_143 : ∀ w ∈ xk_143.flatMap (xWd xTab 143), w ∈ tTg xTab := xWB_of (qs := [(14, 195)]) (by decide +kernel)
theorem xs_143 : xk_143.all (xSd xTab xnM 143) = true := by decide +kernel
theorem xc_143 : ∀ e ∈ xk_143, xInv e = true → xCat xTab 143 e.1 := fun _ _ _ => xCat_nil rfl rfl
theorem xh_143 : ∀ e ∈ xk_143, xThr e = true → xLk2 xTab 143 e := xThr_none (by decide +kernel)
theorem xd_144 : xDec (prog_14_method_61_code) xk_144 := xDecW_of (base := 0) (Nat.zero_le _) (by decide +kernel)
theorem xw_144 : ∀ w ∈ xk_144.flatMap (xWd xTab 144), w ∈ tTg xTab := xWB_of (qs := [(14, 195), (15, 174), (15, 176), (3, 15), (16, 33), (16, 35), (5, 0), (14, 212), (14, 211), (14, 211)]) (by decide +kernel)
theorem xs_144 : xk_144.all (xSd xTab xnM 144) = true := by decide +kernel
theorem xc_144 : ∀ e ∈ xk_144, xInv e = true → xCat xTab 144 e.1 := fun _ _ _ => xCat_nil rfl rfl
theorem xh_144 : ∀ e ∈ xk_144, xThr e = true → xLk2 xTab 144 e := xThr_none (by decide +kernel)
theorem xd_145 : xDec (prog_14_method_125_code) xk_145 := xDecW_of (base := 0) (Nat.zero_le _) (by decide +kernel)
theorem xw_145 : ∀ w ∈ xk_145.flatMap (xWd xTab 145), w ∈ tTg xTab := xWB_of (qs := [(15, 178), (15, 180), (4, 0), (14, 195), (15, 178), (15, 180), (4, 0), (16, 76), (16, 78), (5, 9), (14, 195), (16, 57), (16, 58), (16, 76), (16, 78), (5, 9), (16, 80), (16, 82), (5, 10)]) (by decide +kernel)
theorem xs_145 : xk_145.all (xSd xTab xnM 145) = true := by decide +kernel
theorem xc_145 : ∀ e ∈ xk_145, xInv e = true → xCat xTab 145 e.1 := fun _ _ _ => xCat_nil rfl rfl
theorem xh_145 : ∀ e ∈ xk_145, xThr e = true → xLk2 xTab 145 e := xThr_none (by decide +kernel)
theorem xd_146 : xDec (prog_1_method_9_code) xk_146 := xDecW_of (base := 0) (Nat.zero_le _) (by decide +kernel)
theorem xw_146 : ∀ w ∈ xk_146.flatMap (xWd xTab 146), w ∈ tTg xTab := xWB_of (qs := [(12, 220), (12, 222), (1, 8), (12, 129), (12, 131), (1, 6), (9, 181), (9, 168), (10, 102), (10, 103), (10, 104), (9, 181), (9, 168), (9, 168), (8, 153), (13, 7), (10, 143), (10, 144)]) (by decide +kernel)
theorem xs_146 : xk_146.all (xSd xTab xnM 146) = true := by decide +kernel
theorem xc_146 : ∀ e ∈ xk_146, xInv e = true → xCat xTab 146 e.1 := fun _ _ _ => xCat_nil rfl rfl
theorem xh_146 : ∀ e ∈ xk_146, xThr e = true → xLk2 xTab 146 e := xThr_none (by decide +kernel)
theorem xd_147 : xDec (prog_14_method_59_code) xk_147 := xDecW_of (base := 0) (Nat.zero_le _) (by decide +kernel)
theorem xw_147 : ∀ w ∈ xk_147.flatMap (xWd xTab 147), w ∈ tTg xTab := xWB_of (qs := [(16, 33), (16, 35), (5, 0), (14, 211)]) (by decide +kernel)
theorem xs_147 : xk_147.all (xSd xTab xnM 147) = true := by decide +kernel
theorem xc_147 : ∀ e ∈ xk_147, xInv e = true → xCat xTab 147 e.1 := fun _ _ _ => xCat_nil rfl rfl
theorem xh_147 : ∀ e ∈ xk_147, xThr e = true → xLk2 xTab 147 e := xThr_none (by decide +kernel)
theorem xd_148 : xDec (prog_1_method_10_code) xk_148 := xDecW_of (base := 0) (Nat.zero_le _) (by decide +kernel)
theorem xw_148 : ∀ w ∈ xk_148.flatMap (xWd xTab 148), w ∈ tTg xTab := xWB_of (qs := [(12, 220), (12, 222), (1, 8), (12, 129), (12, 131), (1, 6), (9, 181), (9, 168), (10, 102), (10, 103), (10, 104), (9, 181), (9, 168), (9, 168), (8, 153), (13, 15), (10, 127), (10, 128)]) (by decide +kernel)
theorem xs_148 : xk_148.all (xSd xTab xnM 148) = true := by decide +kernel
theorem xc_148 : ∀ e ∈ xk_148, xInv e = true → xCat xTab 148 e.1 := fun _ _ _ => xCat_nil rfl rfl
theorem xh_148 : ∀ e ∈ xk_148, xThr e = true → xLk2 xTab 148 e := xThr_none (by decide +kernel)
theorem xd_149 : xDec (prog_14_method_60_code) xk_149 := xDecW_of (base := 0) (Nat.zero_le _) (by decide +kernel)
theorem xw_149 : ∀ w ∈ xk_149.flatMap (xWd xTab 149), w ∈ tTg xTab := xWB_of (qs := [(16, 33), (16, 35), (5, 0), (14, 212)]) (by decide +kernel)
theorem xs_149 : xk_149.all (xSd xTab xnM 149) = true := by decide +kernel
theorem xc_149 : ∀ e ∈ xk_149, xInv e = true → xCat xTab 149 e.1 := fun _ _ _ => xCat_nil rfl rfl
theorem xh_149 : ∀ e ∈ xk_149, xThr e = true → xLk2 xTab 149 e := xThr_none (by decide +kernel)
theorem xd_150 : xDec (prog_1_method_11_code) xk_150 := xDecW_of (base := 0) (Nat.zero_le _) (by decide +kernel)
theorem xw_150 : ∀ w ∈ xk_150.flatMap (xWd xTab 150), w ∈ tTg xTab := xWB_of (qs := [(13, 23), (13, 25), (1, 11), (9, 168), (13, 31), (13, 32), (13, 33)]) (by decide +kernel)
theorem xs_150 : xk_150.all (xSd xTab xnM 150) = true := by decide +kernel
theorem xc_150 : ∀ e ∈ xk_150, xInv e = true → xCat xTab 150 e.1 := fun _ _ _ => xCat_nil rfl rfl
theorem xh_150 : ∀ e ∈ xk_150, xThr e = true → xLk2 xTab 150 e := xThr_none (by decide +kernel)
theorem xd_151 : xDec (prog_14_method_79_code) xk_151 := xDecW_of (base := 0) (Nat.zero_le _) (by decide +kernel)
theorem xw_151 : ∀ w ∈ xk_151.flatMap (xWd xTab 151), w ∈ tTg xTab := xWB_of (qs := [(15, 223), (15, 225), (4, 6), (15, 223), (15, 225), (4, 6), (14, 194)]) (by decide +kernel)
theorem xs_151 : xk_151.all (xSd xTab xnM 151) = true := by decide +kernel
theorem xc_151 : ∀ e ∈ xk_151, xInv e = true → xCat xTab 151 e.1 := fun _ _ _ => xCat_nil rfl rfl
theorem xh_151 : ∀ e ∈ xk_151, xThr e = true → xLk2 xTab 151 e := xThr_none (by decide +kernel)
theorem xd_152 : xDec (prog_14_method_13_code) xk_152 := xDecW_of (base := 0) (Nat.zero_le _) (by decide +kernel)
theorem xw_152 : ∀ w ∈ xk_152.flatMap (xWd xTab 152), w ∈ tTg xTab := xWB_of (qs := [(14, 195)]) (by decide +kernel)
theorem xs_152 : xk_152.all (xSd xTab xnM 152) = true := by decide +kernel
theorem xc_152 : ∀ e ∈ xk_152, xInv e = true → xCat xTab 152 e.1 := fun _ _ _ => xCat_nil rfl rfl
theorem xh_152 : ∀ e ∈ xk_152, xThr e = true → xLk2 xTab 152 e := xThr_none (by decide +kernel)
theorem xd_153 : xDec (prog_1_method_12_code) xk_153 := xDecW_of (base := 0) (Nat.zero_le _) (by decide +kernel)
theorem xw_153 : ∀ w ∈ xk_153.flatMap (xWd xTab 153), w ∈ tTg xTab := xWB_of (qs := [(13, 42), (13, 44), (1, 13), (9, 177), (10, 157), (10, 113), (9, 177), (13, 52), (13, 53), (9, 177)]) (by decide +kernel)
theorem xs_153 : xk_153.all (xSd xTab xnM 153) = true := by decide +kernel
theorem xc_153 : ∀ e ∈ xk_153, xInv e = true → xCat xTab 153 e.1 := fun _ _ _ => xCat_nil rfl rfl
theorem xh_153 : ∀ e ∈ xk_153, xThr e = true → xLk2 xTab 153 e := xThr_none (by decide +kernel)
theorem xd_154 : xDec (prog_14_method_81_code) xk_154 := xDecW_of (base := 0) (Nat.zero_le _) (by decide +kernel)
theorem xw_154 : ∀ w ∈ xk_154.flatMap (xWd xTab 154), w ∈ tTg xTab := xWB_of (qs := [(15, 223), (15, 225), (4, 6), (16, 116), (16, 118), (5, 15), (14, 194)]) (by decide +kernel)
theorem xs_154 : xk_154.all (xSd xTab xnM 154) = true := by decide +kernel
theorem xc_154 : ∀ e ∈ xk_154, xInv e = true → xCat xTab 154 e.1 := fun _ _ _ => xCat_nil rfl rfl
theorem xh_154 : ∀ e ∈ xk_154, xThr e = true → xLk2 xTab 154 e := xThr_none (by decide +kernel)
theorem xd_155 : xDec (prog_14_method_52_code) xk_155 := xDecW_of (base := 0) (Nat.zero_le _) (by decide +kernel)
theorem xw_155 : ∀ w ∈ xk_155.flatMap (xWd xTab 155), w ∈ tTg xTab := xWB_of (qs := [(14, 213), (14, 214), (14, 195), (15, 235), (15, 237), (4, 9), (14, 213), (14, 195), (14, 213), (14, 213)]) (by decide +kernel)
theorem xs_155 : xk_155.all (xSd xTab xnM 155) = true := by decide +kernel
theorem xc_155 : ∀ e ∈ xk_155, xInv e = true → xCat xTab 155 e.1 := fun _ _ _ => xCat_nil rfl rfl
theorem xh_155 : ∀ e ∈ xk_155, xThr e = true → xLk2 xTab 155 e := xThr_none (by decide +kernel)
theorem xd_156 : xDec (prog_1_method_13_code) xk_156 := xDecW_of (base := 0) (Nat.zero_le _) (by decide +kernel)
theorem xw_156 : ∀ w ∈ xk_156.flatMap (xWd xTab 156), w ∈ tTg xTab := xWB_of (qs := [(13, 62), (13, 64), (1, 15), (13, 66), (13, 68), (2, 0), (9, 182), (9, 168), (13, 71), (13, 72), (13, 73), (9, 168), (10, 162), (10, 163), (10, 164), (13, 90), (13, 91)]) (by decide +kernel)
theorem xs_156 : xk_156.all (xSd xTab xnM 156) = true := by decide +kernel
theorem xc_156 : ∀ e ∈ xk_156, xInv e = true → xCat xTab 156 e.1 := fun _ _ _ => xCat_nil rfl rfl
theorem xh_156 : ∀ e ∈ xk_156, xThr e = true → xLk2 xTab 156 e := xThr_none (by decide +kernel)
theorem xd_157 : xDec (prog_14_method_83_code) xk_157 := xDecW_of (base := 0) (Nat.zero_le _) (by decide +kernel)
theorem xw_157 : ∀ w ∈ xk_157.flatMap (xWd xTab 157), w ∈ tTg xTab := xWB_of (qs := [(14, 200), (14, 199), (14, 199), (14, 200), (14, 200), (14, 199), (14, 200), (14, 195), (14, 200), (14, 200)]) (by decide +kernel)
theorem xs_157 : xk_157.all (xSd xTab xnM 157) = true := by decide +kernel
theorem xc_157 : ∀ e ∈ xk_157, xInv e = true → xCat xTab 157 e.1 := fun _ _ _ => xCat_nil rfl rfl
theorem xh_157 : ∀ e ∈ xk_157, xThr e = true → xLk2 xTab 157 e := xThr_none (by decide +kernel)
theorem xd_158 : xDec (prog_14_method_66_code) xk_158 := xDecW_of (base := 0) (Nat.zero_le _) (by decide +kernel)
theorem xw_158 : ∀ w ∈ xk_158.flatMap (xWd xTab 158), w ∈ tTg xTab := xWB_of (qs := [(16, 132), (16, 134), (6, 2)]) (by decide +kernel)
theorem xs_158 : xk_158.all (xSd xTab xnM 158) = true := by decide +kernel
theorem xc_158 : ∀ e ∈ xk_158, xInv e = true → xCat xTab 158 e.1 := fun _ _ _ => xCat_nil rfl rfl
theorem xh_158 : ∀ e ∈ xk_158, xThr e = true → xLk2 xTab 158 e := xThr_none (by decide +kernel)
theorem xd_159 : xDec (prog_14_method_67_code) xk_159 := xDecW_of (base := 0) (Nat.zero_le _) (by decide +kernel)
theorem xw_159 : ∀ w ∈ xk_159.flatMap (xWd xTab 159), w ∈ tTg xTab := xWB_of (qs := [(14, 195), (15, 174), (15, 176), (3, 15)]) (by decide +kernel)
theorem xs_159 : xk_159.all (xSd xTab xnM 159) = true := by decide +kernel
theorem xc_159 : ∀ e ∈ xk_159, xInv e = true → xCat xTab 159 e.1 := fun _ _ _ => xCat_nil rfl rfl
theorem xh_159 : ∀ e ∈ xk_159, xThr e = true → xLk2 xTab 159 e := xThr_none (by decide +kernel)
theorem xd_160 : xDec (prog_14_method_7_code) xk_160 := xDecW_of (base := 0) (Nat.zero_le _) (by decide +kernel)
theorem xw_160 : ∀ w ∈ xk_160.flatMap (xWd xTab 160), w ∈ tTg xTab := xWB_of (qs := []) (by decide +kernel)
theorem xs_160 : xk_160.all (xSd xTab xnM 160) = true := by decide +kernel
theorem xc_160 : ∀ e ∈ xk_160, xInv e = true → xCat xTab 160 e.1 := fun _ _ _ => xCat_nil rfl rfl
theorem xh_160 : ∀ e ∈ xk_160, xThr e = true → xLk2 xTab 160 e := xThr_none (by decide +kernel)
theorem xd_161 : xDec (prog_1_method_14_code) xk_161 := xDecW_of (base := 0) (Nat.zero_le _) (by decide +kernel)
theorem xw_161 : ∀ w ∈ xk_161.flatMap (xWd xTab 161), w ∈ tTg xTab := xWB_of (qs := [(9, 168), (8, 180), (9, 168), (9, 168), (8, 180), (9, 168), (8, 183), (13, 119), (13, 120), (13, 121), (13, 66), (13, 68), (2, 0), (9, 168), (8, 183)]) (by decide +kernel)
theorem xs_161 : xk_161.all (xSd xTab xnM 161) = true := by decide +kernel
theorem xc_161 : ∀ e ∈ xk_161, xInv e = true → xCat xTab 161 e.1 := fun _ _ _ => xCat_nil rfl rfl
theorem xh_161_9 : xLk2 xTab 161 (9, .new 265, 3, 2, 0, 1, 0) := ⟨267, by decide +kernel, by decide +kernel, by decide +kernel, by decide, rfl, rfl, by decide +kernel, xt_3⟩
theorem xh_161_28 : xLk2 xTab 161 (28, .new 271, 3, 1, 0, 1, 0) := ⟨273, by decide +kernel, by decide +kernel, by decide +kernel, by decide, rfl, rfl, by decide +kernel, xt_4⟩
theorem xh_161_64 : xLk2 xTab 161 (64, .new 271, 3, 1, 0, 1, 0) := ⟨273, by decide +kernel, by decide +kernel, by decide +kernel, by decide, rfl, rfl, by decide +kernel, xt_4⟩
theorem xh_161 : ∀ e ∈ xk_161, xThr e = true → xLk2 xTab 161 e := by
  intro e he ht
  have h : xk_161.filter xThr = [(9, .new 265, 3, 2, 0, 1, 0), (28, .new 271, 3, 1, 0, 1, 0), (64, .new 271, 3, 1, 0, 1, 0)] := by rfl
  have h2 := List.mem_filter.mpr ⟨he, ht⟩
  rw [h] at h2
  simp only [List.mem_cons, List.not_mem_nil, or_false] at h2
  rcases h2 with h2 | h2 | h2
  · rw [h2]; exact xh_161_9
  · rw [h2]; exact xh_161_28
  · rw [h2]; exact xh_161_64
theorem xd_162 : xDec (prog_14_method_86_code) xk_162 := xDecW_of (base := 0) (Nat.zero_le _) (by decide +kernel)
theorem xw_162 : ∀ w ∈ xk_162.flatMap (xWd xTab 162), w ∈ tTg xTab := xWB_of (qs := []) (by decide +kernel)
theorem xs_162 : xk_162.all (xSd xTab xnM 162) = true := by decide +kernel
theorem xc_162 : ∀ e ∈ xk_162, xInv e = true → xCat xTab 162 e.1 := fun _ _ _ => xCat_nil rfl rfl
theorem xh_162 : ∀ e ∈ xk_162, xThr e = true → xLk2 xTab 162 e := xThr_none (by decide +kernel)
theorem xd_163 : xDec (prog_14_method_87_code) xk_163 := xDecW_of (base := 0) (Nat.zero_le _) (by decide +kernel)
theorem xw_163 : ∀ w ∈ xk_163.flatMap (xWd xTab 163), w ∈ tTg xTab := xWB_of (qs := []) (by decide +kernel)
theorem xs_163 : xk_163.all (xSd xTab xnM 163) = true := by decide +kernel
theorem xc_163 : ∀ e ∈ xk_163, xInv e = true → xCat xTab 163 e.1 := fun _ _ _ => xCat_nil rfl rfl
theorem xh_163 : ∀ e ∈ xk_163, xThr e = true → xLk2 xTab 163 e := xThr_none (by decide +kernel)
theorem xd_164 : xDec (prog_14_method_12_code) xk_164 := xDecW_of (base := 0) (Nat.zero_le _) (by decide +kernel)
theorem xw_164 : ∀ w ∈ xk_164.flatMap (xWd xTab 164), w ∈ tTg xTab := xWB_of (qs := [(15, 192), (15, 194), (4, 3), (15, 48), (15, 49), (15, 192), (15, 194), (4, 3), (15, 48), (15, 49)]) (by decide +kernel)
theorem xs_164 : xk_164.all (xSd xTab xnM 164) = true := by decide +kernel
theorem xc_164 : ∀ e ∈ xk_164, xInv e = true → xCat xTab 164 e.1 := fun _ _ _ => xCat_nil rfl rfl
theorem xh_164 : ∀ e ∈ xk_164, xThr e = true → xLk2 xTab 164 e := xThr_none (by decide +kernel)
theorem xd_165 : xDec (prog_14_method_84_code) xk_165 := xDecW_of (base := 0) (Nat.zero_le _) (by decide +kernel)
theorem xw_165 : ∀ w ∈ xk_165.flatMap (xWd xTab 165), w ∈ tTg xTab := xWB_of (qs := [(16, 124), (16, 126), (6, 0), (14, 195), (14, 195)]) (by decide +kernel)
theorem xs_165 : xk_165.all (xSd xTab xnM 165) = true := by decide +kernel
theorem xc_165 : ∀ e ∈ xk_165, xInv e = true → xCat xTab 165 e.1 := fun _ _ _ => xCat_nil rfl rfl
theorem xh_165 : ∀ e ∈ xk_165, xThr e = true → xLk2 xTab 165 e := xThr_none (by decide +kernel)
theorem xd_166 : xDec (prog_1_method_15_code) xk_166 := xDecW_of (base := 0) (Nat.zero_le _) (by decide +kernel)
theorem xw_166 : ∀ w ∈ xk_166.flatMap (xWd xTab 166), w ∈ tTg xTab := xWB_of (qs := [(12, 129), (12, 131), (1, 6), (13, 66), (13, 68), (2, 0), (9, 168), (8, 180), (9, 168), (8, 180), (9, 168), (9, 168), (10, 155), (10, 107), (10, 108), (8, 183)]) (by decide +kernel)
theorem xs_166 : xk_166.all (xSd xTab xnM 166) = true := by decide +kernel
theorem xc_166 : ∀ e ∈ xk_166, xInv e = true → xCat xTab 166 e.1 := fun _ _ _ => xCat_nil rfl rfl
theorem xh_166 : ∀ e ∈ xk_166, xThr e = true → xLk2 xTab 166 e := xThr_none (by decide +kernel)
theorem xd_167 : xDec (prog_1_method_16_code) xk_167 := xDecW_of (base := 0) (Nat.zero_le _) (by decide +kernel)
theorem xw_167 : ∀ w ∈ xk_167.flatMap (xWd xTab 167), w ∈ tTg xTab := xWB_of (qs := [(9, 168), (8, 180), (13, 66), (13, 68), (2, 0), (9, 178), (9, 168), (9, 168), (8, 180), (9, 168), (8, 183), (9, 177), (10, 156), (10, 29), (10, 30), (9, 168), (8, 208), (9, 168), (8, 180), (9, 177), (13, 138), (13, 139), (13, 140)]) (by decide +kernel)
theorem xs_167 : xk_167.all (xSd xTab xnM 167) = true := by decide +kernel
theorem xc_167 : ∀ e ∈ xk_167, xInv e = true → xCat xTab 167 e.1 := fun _ _ _ => xCat_nil rfl rfl
theorem xh_167_11 : xLk2 xTab 167 (11, .new 271, 3, 1, 0, 1, 0) := ⟨273, by decide +kernel, by decide +kernel, by decide +kernel, by decide, rfl, rfl, by decide +kernel, xt_4⟩
theorem xh_167 : ∀ e ∈ xk_167, xThr e = true → xLk2 xTab 167 e := by
  intro e he ht
  have h : xk_167.filter xThr = [(11, .new 271, 3, 1, 0, 1, 0)] := by rfl
  have h2 := List.mem_filter.mpr ⟨he, ht⟩
  rw [h] at h2
  simp only [List.mem_cons, List.not_mem_nil, or_false] at h2
  rcases h2 with h2
  · rw [h2]; exact xh_167_11
theorem xd_168 : xDec (prog_14_method_90_code) xk_168 := xDecW_of (base := 0) (Nat.zero_le _) (by decide +kernel)
theorem xw_168 : ∀ w ∈ xk_168.flatMap (xWd xTab 168), w ∈ tTg xTab := xWB_of (qs := [(14, 195), (14, 195), (14, 195), (14, 195), (14, 195), (14, 195), (14, 195), (14, 195), (14, 195), (14, 195), (16, 149), (16, 150)]) (by decide +kernel)
theorem xs_168 : xk_168.all (xSd xTab xnM 168) = true := by decide +kernel
theorem xc_168 : ∀ e ∈ xk_168, xInv e = true → xCat xTab 168 e.1 := fun _ _ _ => xCat_nil rfl rfl
theorem xh_168 : ∀ e ∈ xk_168, xThr e = true → xLk2 xTab 168 e := xThr_none (by decide +kernel)
theorem xd_169 : xDec (prog_14_method_4_code) xk_169 := xDecW_of (base := 0) (Nat.zero_le _) (by decide +kernel)
theorem xw_169 : ∀ w ∈ xk_169.flatMap (xWd xTab 169), w ∈ tTg xTab := xWB_of (qs := []) (by decide +kernel)
theorem xs_169 : xk_169.all (xSd xTab xnM 169) = true := by decide +kernel
theorem xc_169 : ∀ e ∈ xk_169, xInv e = true → xCat xTab 169 e.1 := fun _ _ _ => xCat_nil rfl rfl
theorem xh_169 : ∀ e ∈ xk_169, xThr e = true → xLk2 xTab 169 e := xThr_none (by decide +kernel)
theorem xd_170 : xDec (prog_1_method_17_code) xk_170 := xDecW_of (base := 0) (Nat.zero_le _) (by decide +kernel)
theorem xw_170 : ∀ w ∈ xk_170.flatMap (xWd xTab 170), w ∈ tTg xTab := xWB_of (qs := [(12, 129), (12, 131), (1, 6), (13, 66), (13, 68), (2, 0), (9, 168), (8, 148), (9, 168), (8, 148)]) (by decide +kernel)
theorem xs_170 : xk_170.all (xSd xTab xnM 170) = true := by decide +kernel
theorem xc_170 : ∀ e ∈ xk_170, xInv e = true → xCat xTab 170 e.1 := fun _ _ _ => xCat_nil rfl rfl
theorem xh_170_23 : xLk2 xTab 170 (23, .new 265, 3, 2, 0, 1, 0) := ⟨267, by decide +kernel, by decide +kernel, by decide +kernel, by decide, rfl, rfl, by decide +kernel, xt_3⟩
theorem xh_170 : ∀ e ∈ xk_170, xThr e = true → xLk2 xTab 170 e := by
  intro e he ht
  have h : xk_170.filter xThr = [(23, .new 265, 3, 2, 0, 1, 0)] := by rfl
  have h2 := List.mem_filter.mpr ⟨he, ht⟩
  rw [h] at h2
  simp only [List.mem_cons, List.not_mem_nil, or_false] at h2
  rcases h2 with h2
  · rw [h2]; exact xh_170_23
theorem xd_171 : xDec (prog_1_method_18_code) xk_171 := xDecW_of (base := 0) (Nat.zero_le _) (by decide +kernel)
theorem xw_171 : ∀ w ∈ xk_171.flatMap (xWd xTab 171), w ∈ tTg xTab := xWB_of (qs := [(13, 23), (13, 25), (1, 11), (13, 66), (13, 68), (2, 0), (9, 168), (13, 31), (13, 32), (13, 33), (9, 168), (13, 157), (11, 163), (11, 164)]) (by decide +kernel)
theorem xs_171 : xk_171.all (xSd xTab xnM 171) = true := by decide +kernel
theorem xc_171 : ∀ e ∈ xk_171, xInv e = true → xCat xTab 171 e.1 := fun _ _ _ => xCat_nil rfl rfl
theorem xh_171 : ∀ e ∈ xk_171, xThr e = true → xLk2 xTab 171 e := xThr_none (by decide +kernel)
theorem xd_172 : xDec (prog_14_method_14_code) xk_172 := xDecW_of (base := 0) (Nat.zero_le _) (by decide +kernel)
theorem xw_172 : ∀ w ∈ xk_172.flatMap (xWd xTab 172), w ∈ tTg xTab := xWB_of (qs := [(14, 195), (14, 195)]) (by decide +kernel)
theorem xs_172 : xk_172.all (xSd xTab xnM 172) = true := by decide +kernel
theorem xc_172 : ∀ e ∈ xk_172, xInv e = true → xCat xTab 172 e.1 := fun _ _ _ => xCat_nil rfl rfl
theorem xh_172 : ∀ e ∈ xk_172, xThr e = true → xLk2 xTab 172 e := xThr_none (by decide +kernel)
theorem xd_173 : xDec (prog_1_method_19_code) xk_173 := xDecW_of (base := 0) (Nat.zero_le _) (by decide +kernel)
theorem xw_173 : ∀ w ∈ xk_173.flatMap (xWd xTab 173), w ∈ tTg xTab := xWB_of (qs := [(12, 129), (12, 131), (1, 6), (13, 62), (13, 64), (1, 15), (13, 66), (13, 68), (2, 0), (9, 168), (8, 153), (9, 168), (8, 153)]) (by decide +kernel)
theorem xs_173 : xk_173.all (xSd xTab xnM 173) = true := by decide +kernel
theorem xc_173 : ∀ e ∈ xk_173, xInv e = true → xCat xTab 173 e.1 := fun _ _ _ => xCat_nil rfl rfl
theorem xh_173 : ∀ e ∈ xk_173, xThr e = true → xLk2 xTab 173 e := xThr_none (by decide +kernel)
theorem xd_174 : xDec (prog_1_method_20_code) xk_174 := xDecW_of (base := 0) (Nat.zero_le _) (by decide +kernel)
theorem xw_174 : ∀ w ∈ xk_174.flatMap (xWd xTab 174), w ∈ tTg xTab := xWB_of (qs := [(12, 220), (12, 222), (1, 8), (12, 129), (12, 131), (1, 6), (9, 168), (12, 148), (11, 154), (11, 155), (13, 66), (13, 68), (2, 0), (9, 168), (8, 172), (9, 168), (8, 172)]) (by decide +kernel)
theorem xs_174 : xk_174.all (xSd xTab xnM 174) = true := by decide +kernel
theorem xc_174 : ∀ e ∈ xk_174, xInv e = true → xCat xTab 174 e.1 := fun _ _ _ => xCat_nil rfl rfl
theorem xh_174_34 : xLk2 xTab 174 (34, .new 271, 3, 1, 0, 1, 0) := ⟨273, by decide +kernel, by decide +kernel, by decide +kernel, by decide, rfl, rfl, by decide +kernel, xt_4⟩
theorem xh_174 : ∀ e ∈ xk_174, xThr e = true → xLk2 xTab 174 e := by
  intro e he ht
  have h : xk_174.filter xThr = [(34, .new 271, 3, 1, 0, 1, 0)] := by rfl
  have h2 := List.mem_filter.mpr ⟨he, ht⟩
  rw [h] at h2
  simp only [List.mem_cons, List.not_mem_nil, or_false] at h2
  rcases h2 with h2
  · rw [h2]; exact xh_174_34
theorem xd_175 : xDec (prog_1_method_21_code) xk_175 := xDecW_of (base := 0) (Nat.zero_le _) (by decide +kernel)
theorem xw_175 : ∀ w ∈ xk_175.flatMap (xWd xTab 175), w ∈ tTg xTab := xWB_of (qs := [(13, 42), (13, 44), (1, 13), (9, 177), (13, 52), (13, 53)]) (by decide +kernel)
theorem xs_175 : xk_175.all (xSd xTab xnM 175) = true := by decide +kernel
theorem xc_175 : ∀ e ∈ xk_175, xInv e = true → xCat xTab 175 e.1 := fun _ _ _ => xCat_nil rfl rfl
theorem xh_175 : ∀ e ∈ xk_175, xThr e = true → xLk2 xTab 175 e := xThr_none (by decide +kernel)
theorem xd_176 : xDec (prog_1_method_22_code) xk_176 := xDecW_of (base := 0) (Nat.zero_le _) (by decide +kernel)
theorem xw_176 : ∀ w ∈ xk_176.flatMap (xWd xTab 176), w ∈ tTg xTab := xWB_of (qs := [(13, 42), (13, 44), (1, 13), (9, 177), (9, 177), (10, 157), (10, 113), (13, 52), (13, 53)]) (by decide +kernel)
theorem xs_176 : xk_176.all (xSd xTab xnM 176) = true := by decide +kernel
theorem xc_176 : ∀ e ∈ xk_176, xInv e = true → xCat xTab 176 e.1 := fun _ _ _ => xCat_nil rfl rfl
theorem xh_176 : ∀ e ∈ xk_176, xThr e = true → xLk2 xTab 176 e := xThr_none (by decide +kernel)
theorem xd_177 : xDec (prog_1_method_23_code) xk_177 := xDecW_of (base := 0) (Nat.zero_le _) (by decide +kernel)
theorem xw_177 : ∀ w ∈ xk_177.flatMap (xWd xTab 177), w ∈ tTg xTab := xWB_of (qs := [(13, 42), (13, 44), (1, 13), (9, 177), (13, 193), (10, 116)]) (by decide +kernel)
theorem xs_177 : xk_177.all (xSd xTab xnM 177) = true := by decide +kernel
theorem xc_177 : ∀ e ∈ xk_177, xInv e = true → xCat xTab 177 e.1 := fun _ _ _ => xCat_nil rfl rfl
theorem xh_177 : ∀ e ∈ xk_177, xThr e = true → xLk2 xTab 177 e := xThr_none (by decide +kernel)
theorem xd_178 : xDec (prog_14_method_54_code) xk_178 := xDecW_of (base := 0) (Nat.zero_le _) (by decide +kernel)
theorem xw_178 : ∀ w ∈ xk_178.flatMap (xWd xTab 178), w ∈ tTg xTab := xWB_of (qs := [(14, 213), (14, 213), (14, 213)]) (by decide +kernel)
theorem xs_178 : xk_178.all (xSd xTab xnM 178) = true := by decide +kernel
theorem xc_178 : ∀ e ∈ xk_178, xInv e = true → xCat xTab 178 e.1 := fun _ _ _ => xCat_nil rfl rfl
theorem xh_178 : ∀ e ∈ xk_178, xThr e = true → xLk2 xTab 178 e := xThr_none (by decide +kernel)
theorem xd_179 : xDec (prog_1_method_24_code) xk_179 := xDecW_of (base := 0) (Nat.zero_le _) (by decide +kernel)
theorem xw_179 : ∀ w ∈ xk_179.flatMap (xWd xTab 179), w ∈ tTg xTab := xWB_of (qs := [(13, 46), (13, 48), (1, 14), (9, 178), (9, 168), (13, 51), (10, 26), (13, 201), (13, 202), (13, 203)]) (by decide +kernel)
theorem xs_179 : xk_179.all (xSd xTab xnM 179) = true := by decide +kernel
theorem xc_179 : ∀ e ∈ xk_179, xInv e = true → xCat xTab 179 e.1 := fun _ _ _ => xCat_nil rfl rfl
theorem xh_179 : ∀ e ∈ xk_179, xThr e = true → xLk2 xTab 179 e := xThr_none (by decide +kernel)
theorem xd_180 : xDec (prog_1_method_25_code) xk_180 := xDecW_of (base := 0) (Nat.zero_le _) (by decide +kernel)
theorem xw_180 : ∀ w ∈ xk_180.flatMap (xWd xTab 180), w ∈ tTg xTab := xWB_of (qs := [(9, 166), (13, 215), (13, 216), (13, 217), (12, 129), (12, 131), (1, 6), (13, 219), (13, 221), (2, 1), (9, 179), (9, 168), (9, 166), (13, 223), (13, 224), (13, 225)]) (by decide +kernel)
theorem xs_180 : xk_180.all (xSd xTab xnM 180) = true := by decide +kernel
theorem xc_180 : ∀ e ∈ xk_180, xInv e = true → xCat xTab 180 e.1 := fun _ _ _ => xCat_nil rfl rfl
theorem xh_180 : ∀ e ∈ xk_180, xThr e = true → xLk2 xTab 180 e := xThr_none (by decide +kernel)
theorem xd_181 : xDec (prog_14_method_103_code) xk_181 := xDecW_of (base := 0) (Nat.zero_le _) (by decide +kernel)
theorem xw_181 : ∀ w ∈ xk_181.flatMap (xWd xTab 181), w ∈ tTg xTab := xWB_of (qs := [(14, 202), (14, 202), (16, 221), (16, 223), (6, 9), (14, 194)]) (by decide +kernel)
theorem xs_181 : xk_181.all (xSd xTab xnM 181) = true := by decide +kernel
theorem xc_181 : ∀ e ∈ xk_181, xInv e = true → xCat xTab 181 e.1 := fun _ _ _ => xCat_nil rfl rfl
theorem xh_181 : ∀ e ∈ xk_181, xThr e = true → xLk2 xTab 181 e := xThr_none (by decide +kernel)
theorem xd_182 : xDec (prog_14_method_102_code) xk_182 := xDecW_of (base := 0) (Nat.zero_le _) (by decide +kernel)
theorem xw_182 : ∀ w ∈ xk_182.flatMap (xWd xTab 182), w ∈ tTg xTab := xWB_of (qs := [(14, 216), (15, 192), (15, 194), (4, 3), (15, 192), (15, 194), (4, 3), (15, 231), (15, 233), (4, 8), (14, 216), (16, 229), (16, 231), (6, 11), (14, 218), (14, 213), (14, 216)]) (by decide +kernel)
theorem xs_182 : xk_182.all (xSd xTab xnM 182) = true := by decide +kernel
theorem xc_182 : ∀ e ∈ xk_182, xInv e = true → xCat xTab 182 e.1 := fun _ _ _ => xCat_nil rfl rfl
theorem xh_182 : ∀ e ∈ xk_182, xThr e = true → xLk2 xTab 182 e := xThr_none (by decide +kernel)
theorem xd_183 : xDec (prog_1_method_26_code) xk_183 := xDecW_of (base := 0) (Nat.zero_le _) (by decide +kernel)
theorem xw_183 : ∀ w ∈ xk_183.flatMap (xWd xTab 183), w ∈ tTg xTab := xWB_of (qs := [(9, 166), (13, 215), (13, 216), (13, 217), (12, 129), (12, 131), (1, 6), (13, 219), (13, 221), (2, 1), (9, 179), (9, 168), (9, 166), (14, 1), (14, 2), (14, 3)]) (by decide +kernel)
theorem xs_183 : xk_183.all (xSd xTab xnM 183) = true := by decide +kernel
theorem xc_183 : ∀ e ∈ xk_183, xInv e = true → xCat xTab 183 e.1 := fun _ _ _ => xCat_nil rfl rfl
theorem xh_183 : ∀ e ∈ xk_183, xThr e = true → xLk2 xTab 183 e := xThr_none (by decide +kernel)
theorem xd_184 : xDec (prog_14_method_105_code) xk_184 := xDecW_of (base := 0) (Nat.zero_le _) (by decide +kernel)
theorem xw_184 : ∀ w ∈ xk_184.flatMap (xWd xTab 184), w ∈ tTg xTab := xWB_of (qs := [(16, 159), (16, 160), (16, 162), (16, 163), (16, 116), (16, 118), (5, 15), (14, 216), (16, 159), (16, 160), (16, 162), (16, 163), (16, 116), (16, 118), (5, 15), (17, 1), (17, 3), (6, 13)]) (by decide +kernel)
theorem xs_184 : xk_184.all (xSd xTab xnM 184) = true := by decide +kernel
theorem xc_184 : ∀ e ∈ xk_184, xInv e = true → xCat xTab 184 e.1 := fun _ _ _ => xCat_nil rfl rfl
theorem xh_184 : ∀ e ∈ xk_184, xThr e = true → xLk2 xTab 184 e := xThr_none (by decide +kernel)
theorem xd_185 : xDec (prog_14_method_5_code) xk_185 := xDecW_of (base := 0) (Nat.zero_le _) (by decide +kernel)
theorem xw_185 : ∀ w ∈ xk_185.flatMap (xWd xTab 185), w ∈ tTg xTab := xWB_of (qs := []) (by decide +kernel)
theorem xs_185 : xk_185.all (xSd xTab xnM 185) = true := by decide +kernel
theorem xc_185 : ∀ e ∈ xk_185, xInv e = true → xCat xTab 185 e.1 := fun _ _ _ => xCat_nil rfl rfl
theorem xh_185 : ∀ e ∈ xk_185, xThr e = true → xLk2 xTab 185 e := xThr_none (by decide +kernel)
theorem xd_186 : xDec (prog_1_method_27_code) xk_186 := xDecW_of (base := 0) (Nat.zero_le _) (by decide +kernel)
theorem xw_186 : ∀ w ∈ xk_186.flatMap (xWd xTab 186), w ∈ tTg xTab := xWB_of (qs := [(9, 166), (13, 215), (13, 216), (13, 217), (13, 219), (13, 221), (2, 1), (9, 168), (8, 129), (9, 178), (9, 168), (9, 168), (10, 155), (10, 107), (10, 108), (9, 177), (10, 156), (10, 29), (10, 30), (9, 166), (9, 177), (14, 26), (13, 228), (13, 229)]) (by decide +kernel)
theorem xs_186 : xk_186.all (xSd xTab xnM 186) = true := by decide +kernel
theorem xc_186 : ∀ e ∈ xk_186, xInv e = true → xCat xTab 186 e.1 := fun _ _ _ => xCat_nil rfl rfl
theorem xh_186 : ∀ e ∈ xk_186, xThr e = true → xLk2 xTab 186 e := xThr_none (by decide +kernel)
theorem xd_187 : xDec (prog_14_method_101_code) xk_187 := xDecW_of (base := 0) (Nat.zero_le _) (by decide +kernel)
theorem xw_187 : ∀ w ∈ xk_187.flatMap (xWd xTab 187), w ∈ tTg xTab := xWB_of (qs := [(14, 213), (14, 201), (14, 201)]) (by decide +kernel)
theorem xs_187 : xk_187.all (xSd xTab xnM 187) = true := by decide +kernel
theorem xc_187 : ∀ e ∈ xk_187, xInv e = true → xCat xTab 187 e.1 := fun _ _ _ => xCat_nil rfl rfl
theorem xh_187 : ∀ e ∈ xk_187, xThr e = true → xLk2 xTab 187 e := xThr_none (by decide +kernel)
theorem xd_188 : xDec (prog_1_method_28_code) xk_188 := xDecW_of (base := 0) (Nat.zero_le _) (by decide +kernel)
theorem xw_188 : ∀ w ∈ xk_188.flatMap (xWd xTab 188), w ∈ tTg xTab := xWB_of (qs := [(13, 23), (13, 25), (1, 11), (9, 180), (9, 168), (14, 34), (10, 11), (10, 12)]) (by decide +kernel)
theorem xs_188 : xk_188.all (xSd xTab xnM 188) = true := by decide +kernel
theorem xc_188 : ∀ e ∈ xk_188, xInv e = true → xCat xTab 188 e.1 := fun _ _ _ => xCat_nil rfl rfl
theorem xh_188 : ∀ e ∈ xk_188, xThr e = true → xLk2 xTab 188 e := xThr_none (by decide +kernel)
theorem xd_189 : xDec (prog_14_method_109_code) xk_189 := xDecW_of (base := 0) (Nat.zero_le _) (by decide +kernel)
theorem xw_189 : ∀ w ∈ xk_189.flatMap (xWd xTab 189), w ∈ tTg xTab := xWB_of (qs := [(15, 192), (15, 194), (4, 3), (15, 192), (15, 194), (4, 3), (15, 192), (15, 194), (4, 3), (15, 192), (15, 194), (4, 3), (14, 217), (14, 217), (15, 192), (15, 194), (4, 3), (15, 192), (15, 194), (4, 3), (14, 217), (17, 17), (17, 19), (6, 15), (14, 217), (16, 159), (16, 160), (16, 162), (16, 163), (16, 116), (16, 118), (5, 15), (16, 116), (16, 118), (5, 15), (14, 217), (14, 217)]) (by decide +kernel)
theorem xs_189 : xk_189.all (xSd xTab xnM 189) = true := by decide +kernel
theorem xc_189 : ∀ e ∈ xk_189, xInv e = true → xCat xTab 189 e.1 := fun _ _ _ => xCat_nil rfl rfl
theorem xh_189 : ∀ e ∈ xk_189, xThr e = true → xLk2 xTab 189 e := xThr_none (by decide +kernel)
theorem xd_190 : xDec (prog_7_method_4_code) xk_190 := xDecW_of (base := 0) (Nat.zero_le _) (by decide +kernel)
theorem xw_190 : ∀ w ∈ xk_190.flatMap (xWd xTab 190), w ∈ tTg xTab := xWB_of (qs := [(8, 128), (10, 10), (10, 11), (10, 12)]) (by decide +kernel)
theorem xs_190 : xk_190.all (xSd xTab xnM 190) = true := by decide +kernel
theorem xc_190 : ∀ e ∈ xk_190, xInv e = true → xCat xTab 190 e.1 := fun _ _ _ => xCat_nil rfl rfl
theorem xh_190 : ∀ e ∈ xk_190, xThr e = true → xLk2 xTab 190 e := xThr_none (by decide +kernel)
theorem xd_191 : xDec (prog_7_method_5_code) xk_191 := xDecW_of (base := 0) (Nat.zero_le _) (by decide +kernel)
theorem xw_191 : ∀ w ∈ xk_191.flatMap (xWd xTab 191), w ∈ tTg xTab := xWB_of (qs := [(8, 128), (10, 79), (10, 80), (10, 25), (10, 26), (10, 82), (10, 84), (0, 4), (10, 25), (10, 26)]) (by decide +kernel)
theorem xs_191 : xk_191.all (xSd xTab xnM 191) = true := by decide +kernel
theorem xc_191 : ∀ e ∈ xk_191, xInv e = true → xCat xTab 191 e.1 := fun _ _ _ => xCat_nil rfl rfl
theorem xh_191 : ∀ e ∈ xk_191, xThr e = true → xLk2 xTab 191 e := xThr_none (by decide +kernel)
