/-! ===== THE ROWS OF METHODS 192 TO 287 ===== -/
theorem xd_192 : xDec (prog_14_method_112_code) xk_192 := xDecW_of (base := 0) (Nat.zero_le _) (by decide +kernel)
theorem xw_192 : ∀ w ∈ xk_192.flatMap (xWd xTab 192), w ∈ tTg xTab := xWB_of (qs := [(14, 195), (14, 195), (17, 17), (17, 19), (6, 15)]) (by decide +kernel)
theorem xs_192 : xk_192.all (xSd xTab xnM 192) = true := by decide +kernel
theorem xc_192 : ∀ e ∈ xk_192, xInv e = true → xCat xTab 192 e.1 := fun _ _ _ => xCat_nil rfl rfl
theorem xh_192 : ∀ e ∈ xk_192, xThr e = true → xLk2 xTab 192 e := xThr_none (by decide +kernel)
theorem xd_193 : xDec (prog_1_method_31_code) xk_193 := xDecW_of (base := 0) (Nat.zero_le _) (by decide +kernel)
theorem xw_193 : ∀ w ∈ xk_193.flatMap (xWd xTab 193), w ∈ tTg xTab := xWB_of (qs := [(13, 23), (13, 25), (1, 11), (9, 168), (8, 135), (9, 168), (8, 135), (9, 168), (8, 142), (9, 168), (8, 142), (9, 169), (9, 168), (10, 186), (10, 187), (10, 188), (9, 180), (9, 169), (14, 42), (14, 43), (14, 44)]) (by decide +kernel)
theorem xs_193 : xk_193.all (xSd xTab xnM 193) = true := by decide +kernel
theorem xc_193 : ∀ e ∈ xk_193, xInv e = true → xCat xTab 193 e.1 := fun _ _ _ => xCat_nil rfl rfl
theorem xh_193 : ∀ e ∈ xk_193, xThr e = true → xLk2 xTab 193 e := xThr_none (by decide +kernel)
theorem xd_194 : xDec (prog_14_method_55_code) xk_194 := xDecW_of (base := 0) (Nat.zero_le _) (by decide +kernel)
theorem xw_194 : ∀ w ∈ xk_194.flatMap (xWd xTab 194), w ∈ tTg xTab := xWB_of (qs := [(14, 215), (14, 213)]) (by decide +kernel)
theorem xs_194 : xk_194.all (xSd xTab xnM 194) = true := by decide +kernel
theorem xc_194 : ∀ e ∈ xk_194, xInv e = true → xCat xTab 194 e.1 := fun _ _ _ => xCat_nil rfl rfl
theorem xh_194 : ∀ e ∈ xk_194, xThr e = true → xLk2 xTab 194 e := xThr_none (by decide +kernel)
theorem xd_195 : xDec (prog_14_method_115_code) xk_195 := xDecW_of (base := 0) (Nat.zero_le _) (by decide +kernel)
theorem xw_195 : ∀ w ∈ xk_195.flatMap (xWd xTab 195), w ∈ tTg xTab := xWB_of (qs := [(14, 195)]) (by decide +kernel)
theorem xs_195 : xk_195.all (xSd xTab xnM 195) = true := by decide +kernel
theorem xc_195 : ∀ e ∈ xk_195, xInv e = true → xCat xTab 195 e.1 := fun _ _ _ => xCat_nil rfl rfl
theorem xh_195 : ∀ e ∈ xk_195, xThr e = true → xLk2 xTab 195 e := xThr_none (by decide +kernel)
theorem xd_196 : xDec (prog_14_method_56_code) xk_196 := xDecW_of (base := 0) (Nat.zero_le _) (by decide +kernel)
theorem xw_196 : ∀ w ∈ xk_196.flatMap (xWd xTab 196), w ∈ tTg xTab := xWB_of (qs := [(14, 215), (14, 213)]) (by decide +kernel)
theorem xs_196 : xk_196.all (xSd xTab xnM 196) = true := by decide +kernel
theorem xc_196 : ∀ e ∈ xk_196, xInv e = true → xCat xTab 196 e.1 := fun _ _ _ => xCat_nil rfl rfl
theorem xh_196 : ∀ e ∈ xk_196, xThr e = true → xLk2 xTab 196 e := xThr_none (by decide +kernel)
theorem xd_197 : xDec (prog_1_method_32_code) xk_197 := xDecW_of (base := 0) (Nat.zero_le _) (by decide +kernel)
theorem xw_197 : ∀ w ∈ xk_197.flatMap (xWd xTab 197), w ∈ tTg xTab := xWB_of (qs := [(12, 129), (12, 131), (1, 6), (12, 129), (12, 131), (1, 6), (9, 168), (14, 61), (10, 95), (10, 96)]) (by decide +kernel)
theorem xs_197 : xk_197.all (xSd xTab xnM 197) = true := by decide +kernel
theorem xc_197 : ∀ e ∈ xk_197, xInv e = true → xCat xTab 197 e.1 := fun _ _ _ => xCat_nil rfl rfl
theorem xh_197 : ∀ e ∈ xk_197, xThr e = true → xLk2 xTab 197 e := xThr_none (by decide +kernel)
theorem xd_198 : xDec (prog_14_method_6_code) xk_198 := xDecW_of (base := 0) (Nat.zero_le _) (by decide +kernel)
theorem xw_198 : ∀ w ∈ xk_198.flatMap (xWd xTab 198), w ∈ tTg xTab := xWB_of (qs := []) (by decide +kernel)
theorem xs_198 : xk_198.all (xSd xTab xnM 198) = true := by decide +kernel
theorem xc_198 : ∀ e ∈ xk_198, xInv e = true → xCat xTab 198 e.1 := fun _ _ _ => xCat_nil rfl rfl
theorem xh_198 : ∀ e ∈ xk_198, xThr e = true → xLk2 xTab 198 e := xThr_none (by decide +kernel)
theorem xd_199 : xDec (prog_1_method_33_code) xk_199 := xDecW_of (base := 0) (Nat.zero_le _) (by decide +kernel)
theorem xw_199 : ∀ w ∈ xk_199.flatMap (xWd xTab 199), w ∈ tTg xTab := xWB_of (qs := [(12, 129), (12, 131), (1, 6), (9, 168), (10, 90), (10, 91), (10, 92)]) (by decide +kernel)
theorem xs_199 : xk_199.all (xSd xTab xnM 199) = true := by decide +kernel
theorem xc_199 : ∀ e ∈ xk_199, xInv e = true → xCat xTab 199 e.1 := fun _ _ _ => xCat_nil rfl rfl
theorem xh_199 : ∀ e ∈ xk_199, xThr e = true → xLk2 xTab 199 e := xThr_none (by decide +kernel)
theorem xd_200 : xDec (prog_14_method_116_code) xk_200 := xDecW_of (base := 0) (Nat.zero_le _) (by decide +kernel)
theorem xw_200 : ∀ w ∈ xk_200.flatMap (xWd xTab 200), w ∈ tTg xTab := xWB_of (qs := [(14, 195), (14, 195), (16, 57), (16, 58), (16, 41), (16, 43), (5, 2)]) (by decide +kernel)
theorem xs_200 : xk_200.all (xSd xTab xnM 200) = true := by decide +kernel
theorem xc_200 : ∀ e ∈ xk_200, xInv e = true → xCat xTab 200 e.1 := fun _ _ _ => xCat_nil rfl rfl
theorem xh_200 : ∀ e ∈ xk_200, xThr e = true → xLk2 xTab 200 e := xThr_none (by decide +kernel)
theorem xd_201 : xDec (prog_11_method_13_code) xk_201 := xDecW_of (base := 0) (Nat.zero_le _) (by decide +kernel)
theorem xw_201 : ∀ w ∈ xk_201.flatMap (xWd xTab 201), w ∈ tTg xTab := xWB_of (qs := [(8, 124), (10, 94), (10, 95), (10, 96)]) (by decide +kernel)
theorem xs_201 : xk_201.all (xSd xTab xnM 201) = true := by decide +kernel
theorem xc_201 : ∀ e ∈ xk_201, xInv e = true → xCat xTab 201 e.1 := fun _ _ _ => xCat_nil rfl rfl
theorem xh_201 : ∀ e ∈ xk_201, xThr e = true → xLk2 xTab 201 e := xThr_none (by decide +kernel)
theorem xd_202 : xDec (prog_1_method_35_code) xk_202 := xDecW_of (base := 0) (Nat.zero_le _) (by decide +kernel)
theorem xw_202 : ∀ w ∈ xk_202.flatMap (xWd xTab 202), w ∈ tTg xTab := xWB_of (qs := [(12, 220), (12, 222), (1, 8), (9, 181), (9, 168), (10, 102), (10, 103), (10, 104), (9, 181), (9, 168), (14, 76), (14, 77), (14, 78)]) (by decide +kernel)
theorem xs_202 : xk_202.all (xSd xTab xnM 202) = true := by decide +kernel
theorem xc_202 : ∀ e ∈ xk_202, xInv e = true → xCat xTab 202 e.1 := fun _ _ _ => xCat_nil rfl rfl
theorem xh_202 : ∀ e ∈ xk_202, xThr e = true → xLk2 xTab 202 e := xThr_none (by decide +kernel)
theorem xd_203 : xDec (prog_14_method_120_code) xk_203 := xDecW_of (base := 0) (Nat.zero_le _) (by decide +kernel)
theorem xw_203 : ∀ w ∈ xk_203.flatMap (xWd xTab 203), w ∈ tTg xTab := xWB_of (qs := [(14, 219), (14, 195), (14, 195), (14, 195), (16, 96), (16, 98), (5, 12), (14, 220), (14, 219), (14, 195), (16, 57), (16, 58), (15, 192), (15, 194), (4, 3), (14, 219), (15, 160), (15, 161), (14, 219)]) (by decide +kernel)
theorem xs_203 : xk_203.all (xSd xTab xnM 203) = true := by decide +kernel
theorem xc_203 : ∀ e ∈ xk_203, xInv e = true → xCat xTab 203 e.1 := fun _ _ _ => xCat_nil rfl rfl
theorem xh_203 : ∀ e ∈ xk_203, xThr e = true → xLk2 xTab 203 e := xThr_none (by decide +kernel)
theorem xd_204 : xDec (prog_6_method_2_code) xk_204 := xDecW_of (base := 0) (Nat.zero_le _) (by decide +kernel)
theorem xw_204 : ∀ w ∈ xk_204.flatMap (xWd xTab 204), w ∈ tTg xTab := xWB_of (qs := [(8, 125), (9, 131), (10, 106), (10, 107), (10, 108), (9, 132), (10, 111), (10, 29), (10, 30), (9, 133), (9, 132), (10, 112), (10, 113), (9, 132), (10, 115), (10, 116), (9, 134), (9, 132)]) (by decide +kernel)
theorem xs_204 : xk_204.all (xSd xTab xnM 204) = true := by decide +kernel
theorem xc_204 : ∀ e ∈ xk_204, xInv e = true → xCat xTab 204 e.1 := fun _ _ _ => xCat_nil rfl rfl
theorem xh_204 : ∀ e ∈ xk_204, xThr e = true → xLk2 xTab 204 e := xThr_none (by decide +kernel)
theorem xd_205 : xDec (prog_6_method_8_code) xk_205 := xDecW_of (base := 0) (Nat.zero_le _) (by decide +kernel)
theorem xw_205 : ∀ w ∈ xk_205.flatMap (xWd xTab 205), w ∈ tTg xTab := xWB_of (qs := [(10, 122), (10, 124), (0, 5), (8, 171), (8, 152), (10, 142), (10, 143), (10, 144), (8, 152), (10, 142), (10, 143), (10, 144)]) (by decide +kernel)
theorem xs_205 : xk_205.all (xSd xTab xnM 205) = true := by decide +kernel
theorem xc_205 : ∀ e ∈ xk_205, xInv e = true → xCat xTab 205 e.1 := fun _ _ _ => xCat_nil rfl rfl
theorem xh_205 : ∀ e ∈ xk_205, xThr e = true → xLk2 xTab 205 e := xThr_none (by decide +kernel)
theorem xd_206 : xDec (prog_1_method_37_code) xk_206 := xDecW_of (base := 0) (Nat.zero_le _) (by decide +kernel)
theorem xw_206 : ∀ w ∈ xk_206.flatMap (xWd xTab 206), w ∈ tTg xTab := xWB_of (qs := [(12, 129), (12, 131), (1, 6), (13, 62), (13, 64), (1, 15), (9, 181), (9, 168), (10, 102), (10, 103), (10, 104), (9, 181), (9, 168), (14, 96), (12, 185), (12, 186)]) (by decide +kernel)
theorem xs_206 : xk_206.all (xSd xTab xnM 206) = true := by decide +kernel
theorem xc_206 : ∀ e ∈ xk_206, xInv e = true → xCat xTab 206 e.1 := fun _ _ _ => xCat_nil rfl rfl
theorem xh_206 : ∀ e ∈ xk_206, xThr e = true → xLk2 xTab 206 e := xThr_none (by decide +kernel)
theorem xd_207 : xDec (prog_14_method_72_code) xk_207 := xDecW_of (base := 0) (Nat.zero_le _) (by decide +kernel)
theorem xw_207 : ∀ w ∈ xk_207.flatMap (xWd xTab 207), w ∈ tTg xTab := xWB_of (qs := [(15, 192), (15, 194), (4, 3), (14, 195), (14, 195), (16, 33), (16, 35), (5, 0), (14, 212), (14, 211), (14, 195)]) (by decide +kernel)
theorem xs_207 : xk_207.all (xSd xTab xnM 207) = true := by decide +kernel
theorem xc_207 : ∀ e ∈ xk_207, xInv e = true → xCat xTab 207 e.1 := fun _ _ _ => xCat_nil rfl rfl
theorem xh_207 : ∀ e ∈ xk_207, xThr e = true → xLk2 xTab 207 e := xThr_none (by decide +kernel)
theorem xd_208 : xDec (prog_1_method_38_code) xk_208 := xDecW_of (base := 0) (Nat.zero_le _) (by decide +kernel)
theorem xw_208 : ∀ w ∈ xk_208.flatMap (xWd xTab 208), w ∈ tTg xTab := xWB_of (qs := [(12, 220), (12, 222), (1, 8), (12, 220), (12, 222), (1, 8), (12, 129), (12, 131), (1, 6), (13, 27), (13, 29), (1, 12), (9, 181), (9, 168), (10, 102), (10, 103), (10, 104), (9, 181), (9, 168), (14, 104), (14, 105), (14, 106)]) (by decide +kernel)
theorem xs_208 : xk_208.all (xSd xTab xnM 208) = true := by decide +kernel
theorem xc_208 : ∀ e ∈ xk_208, xInv e = true → xCat xTab 208 e.1 := fun _ _ _ => xCat_nil rfl rfl
theorem xh_208 : ∀ e ∈ xk_208, xThr e = true → xLk2 xTab 208 e := xThr_none (by decide +kernel)
theorem xd_209 : xDec (prog_14_method_127_code) xk_209 := xDecW_of (base := 0) (Nat.zero_le _) (by decide +kernel)
theorem xw_209 : ∀ w ∈ xk_209.flatMap (xWd xTab 209), w ∈ tTg xTab := xWB_of (qs := [(16, 88), (16, 90), (5, 11), (15, 178), (15, 180), (4, 0), (15, 178), (15, 180), (4, 0)]) (by decide +kernel)
theorem xs_209 : xk_209.all (xSd xTab xnM 209) = true := by decide +kernel
theorem xc_209 : ∀ e ∈ xk_209, xInv e = true → xCat xTab 209 e.1 := fun _ _ _ => xCat_nil rfl rfl
theorem xh_209 : ∀ e ∈ xk_209, xThr e = true → xLk2 xTab 209 e := xThr_none (by decide +kernel)
theorem xd_210 : xDec (prog_1_method_39_code) xk_210 := xDecW_of (base := 0) (Nat.zero_le _) (by decide +kernel)
theorem xw_210 : ∀ w ∈ xk_210.flatMap (xWd xTab 210), w ∈ tTg xTab := xWB_of (qs := [(13, 62), (13, 64), (1, 15), (13, 62), (13, 64), (1, 15), (9, 168), (8, 199), (14, 121), (14, 122)]) (by decide +kernel)
theorem xs_210 : xk_210.all (xSd xTab xnM 210) = true := by decide +kernel
theorem xc_210 : ∀ e ∈ xk_210, xInv e = true → xCat xTab 210 e.1 := fun _ _ _ => xCat_nil rfl rfl
theorem xh_210 : ∀ e ∈ xk_210, xThr e = true → xLk2 xTab 210 e := xThr_none (by decide +kernel)
theorem xd_211 : xDec (prog_11_method_4_code) xk_211 := xDecW_of (base := 0) (Nat.zero_le _) (by decide +kernel)
theorem xw_211 : ∀ w ∈ xk_211.flatMap (xWd xTab 211), w ∈ tTg xTab := xWB_of (qs := [(8, 130), (8, 137), (10, 110), (10, 26)]) (by decide +kernel)
theorem xs_211 : xk_211.all (xSd xTab xnM 211) = true := by decide +kernel
theorem xc_211 : ∀ e ∈ xk_211, xInv e = true → xCat xTab 211 e.1 := fun _ _ _ => xCat_nil rfl rfl
theorem xh_211 : ∀ e ∈ xk_211, xThr e = true → xLk2 xTab 211 e := xThr_none (by decide +kernel)
theorem xd_212 : xDec (prog_10_method_2_code) xk_212 := xDecW_of (base := 0) (Nat.zero_le _) (by decide +kernel)
theorem xw_212 : ∀ w ∈ xk_212.flatMap (xWd xTab 212), w ∈ tTg xTab := xWB_of (qs := [(10, 32), (10, 33), (10, 35), (10, 37), (0, 1), (8, 193), (8, 193), (8, 193), (10, 41), (10, 15), (10, 42), (10, 44), (0, 2), (9, 63), (9, 64), (8, 185)]) (by decide +kernel)
theorem xs_212 : xk_212.all (xSd xTab xnM 212) = true := by decide +kernel
theorem xc_212 : ∀ e ∈ xk_212, xInv e = true → xCat xTab 212 e.1 := fun _ _ _ => xCat_nil rfl rfl
theorem xh_212 : ∀ e ∈ xk_212, xThr e = true → xLk2 xTab 212 e := xThr_none (by decide +kernel)
theorem xd_213 : xDec (prog_10_method_12_code) xk_213 := xDecW_of (base := 0) (Nat.zero_le _) (by decide +kernel)
theorem xw_213 : ∀ w ∈ xk_213.flatMap (xWd xTab 213), w ∈ tTg xTab := xWB_of (qs := []) (by decide +kernel)
theorem xs_213 : xk_213.all (xSd xTab xnM 213) = true := by decide +kernel
theorem xc_213 : ∀ e ∈ xk_213, xInv e = true → xCat xTab 213 e.1 := fun _ _ _ => xCat_nil rfl rfl
theorem xh_213 : ∀ e ∈ xk_213, xThr e = true → xLk2 xTab 213 e := xThr_none (by decide +kernel)
theorem xd_214 : xDec (prog_11_method_8_code) xk_214 := xDecW_of (base := 0) (Nat.zero_le _) (by decide +kernel)
theorem xw_214 : ∀ w ∈ xk_214.flatMap (xWd xTab 214), w ∈ tTg xTab := xWB_of (qs := [(8, 157), (8, 169), (8, 169)]) (by decide +kernel)
theorem xs_214 : xk_214.all (xSd xTab xnM 214) = true := by decide +kernel
theorem xc_214 : ∀ e ∈ xk_214, xInv e = true → xCat xTab 214 e.1 := fun _ _ _ => xCat_nil rfl rfl
theorem xh_214 : ∀ e ∈ xk_214, xThr e = true → xLk2 xTab 214 e := xThr_none (by decide +kernel)
theorem xd_215 : xDec (prog_14_method_133_code) xk_215 := xDecW_of (base := 0) (Nat.zero_le _) (by decide +kernel)
theorem xw_215 : ∀ w ∈ xk_215.flatMap (xWd xTab 215), w ∈ tTg xTab := xWB_of (qs := [(15, 192), (15, 194), (4, 3), (15, 192), (15, 194), (4, 3)]) (by decide +kernel)
theorem xs_215 : xk_215.all (xSd xTab xnM 215) = true := by decide +kernel
theorem xc_215 : ∀ e ∈ xk_215, xInv e = true → xCat xTab 215 e.1 := fun _ _ _ => xCat_nil rfl rfl
theorem xh_215 : ∀ e ∈ xk_215, xThr e = true → xLk2 xTab 215 e := xThr_none (by decide +kernel)
theorem xd_216 : xDec (prog_1_method_45_code) xk_216 := xDecW_of (base := 0) (Nat.zero_le _) (by decide +kernel)
theorem xw_216 : ∀ w ∈ xk_216.flatMap (xWd xTab 216), w ∈ tTg xTab := xWB_of (qs := [(9, 168), (8, 129), (9, 168), (8, 148)]) (by decide +kernel)
theorem xs_216 : xk_216.all (xSd xTab xnM 216) = true := by decide +kernel
theorem xc_216 : ∀ e ∈ xk_216, xInv e = true → xCat xTab 216 e.1 := fun _ _ _ => xCat_nil rfl rfl
theorem xh_216_9 : xLk2 xTab 216 (9, .new 265, 3, 2, 0, 1, 0) := ⟨267, by decide +kernel, by decide +kernel, by decide +kernel, by decide, rfl, rfl, by decide +kernel, xt_3⟩
theorem xh_216 : ∀ e ∈ xk_216, xThr e = true → xLk2 xTab 216 e := by
  intro e he ht
  have h : xk_216.filter xThr = [(9, .new 265, 3, 2, 0, 1, 0)] := by rfl
  have h2 := List.mem_filter.mpr ⟨he, ht⟩
  rw [h] at h2
  simp only [List.mem_cons, List.not_mem_nil, or_false] at h2
  rcases h2 with h2
  · rw [h2]; exact xh_216_9
theorem xd_217 : xDec (prog_1_method_46_code) xk_217 := xDecW_of (base := 0) (Nat.zero_le _) (by decide +kernel)
theorem xw_217 : ∀ w ∈ xk_217.flatMap (xWd xTab 217), w ∈ tTg xTab := xWB_of (qs := [(12, 220), (12, 222), (1, 8), (13, 62), (13, 64), (1, 15), (9, 169), (9, 168), (10, 186), (10, 187), (10, 188), (9, 182), (9, 169), (13, 71), (13, 72), (13, 73), (9, 169), (8, 172)]) (by decide +kernel)
theorem xs_217 : xk_217.all (xSd xTab xnM 217) = true := by decide +kernel
theorem xc_217 : ∀ e ∈ xk_217, xInv e = true → xCat xTab 217 e.1 := fun _ _ _ => xCat_nil rfl rfl
theorem xh_217 : ∀ e ∈ xk_217, xThr e = true → xLk2 xTab 217 e := xThr_none (by decide +kernel)
theorem xd_218 : xDec (prog_1_method_47_code) xk_218 := xDecW_of (base := 0) (Nat.zero_le _) (by decide +kernel)
theorem xw_218 : ∀ w ∈ xk_218.flatMap (xWd xTab 218), w ∈ tTg xTab := xWB_of (qs := [(13, 62), (13, 64), (1, 15), (9, 169), (9, 168), (10, 186), (10, 187), (10, 188), (9, 182), (9, 169), (13, 71), (13, 72), (13, 73), (9, 169), (14, 153), (12, 193), (12, 194), (9, 169), (10, 162), (10, 163), (10, 164)]) (by decide +kernel)
theorem xs_218 : xk_218.all (xSd xTab xnM 218) = true := by decide +kernel
theorem xc_218 : ∀ e ∈ xk_218, xInv e = true → xCat xTab 218 e.1 := fun _ _ _ => xCat_nil rfl rfl
theorem xh_218 : ∀ e ∈ xk_218, xThr e = true → xLk2 xTab 218 e := xThr_none (by decide +kernel)
theorem xd_219 : xDec (prog_14_method_68_code) xk_219 := xDecW_of (base := 0) (Nat.zero_le _) (by decide +kernel)
theorem xw_219 : ∀ w ∈ xk_219.flatMap (xWd xTab 219), w ∈ tTg xTab := xWB_of (qs := [(14, 195), (16, 57), (16, 58), (15, 192), (15, 194), (4, 3)]) (by decide +kernel)
theorem xs_219 : xk_219.all (xSd xTab xnM 219) = true := by decide +kernel
theorem xc_219 : ∀ e ∈ xk_219, xInv e = true → xCat xTab 219 e.1 := fun _ _ _ => xCat_nil rfl rfl
theorem xh_219 : ∀ e ∈ xk_219, xThr e = true → xLk2 xTab 219 e := xThr_none (by decide +kernel)
theorem xd_220 : xDec (prog_1_method_48_code) xk_220 := xDecW_of (base := 0) (Nat.zero_le _) (by decide +kernel)
theorem xw_220 : ∀ w ∈ xk_220.flatMap (xWd xTab 220), w ∈ tTg xTab := xWB_of (qs := [(13, 62), (13, 64), (1, 15), (9, 169), (9, 168), (10, 186), (10, 187), (10, 188), (9, 169), (8, 206), (9, 182), (9, 169), (13, 71), (13, 72), (13, 73), (9, 169), (10, 162), (10, 163), (10, 164), (13, 90), (13, 91), (13, 70), (10, 56), (14, 161), (10, 53)]) (by decide +kernel)
theorem xs_220 : xk_220.all (xSd xTab xnM 220) = true := by decide +kernel
theorem xc_220 : ∀ e ∈ xk_220, xInv e = true → xCat xTab 220 e.1 := fun _ _ _ => xCat_nil rfl rfl
theorem xh_220 : ∀ e ∈ xk_220, xThr e = true → xLk2 xTab 220 e := xThr_none (by decide +kernel)
theorem xd_221 : xDec (prog_1_method_49_code) xk_221 := xDecW_of (base := 0) (Nat.zero_le _) (by decide +kernel)
theorem xw_221 : ∀ w ∈ xk_221.flatMap (xWd xTab 221), w ∈ tTg xTab := xWB_of (qs := [(12, 129), (12, 131), (1, 6), (9, 168), (8, 208), (14, 169), (14, 170), (14, 171), (9, 168), (8, 208), (14, 173), (14, 174), (14, 175)]) (by decide +kernel)
theorem xs_221 : xk_221.all (xSd xTab xnM 221) = true := by decide +kernel
theorem xc_221 : ∀ e ∈ xk_221, xInv e = true → xCat xTab 221 e.1 := fun _ _ _ => xCat_nil rfl rfl
theorem xh_221 : ∀ e ∈ xk_221, xThr e = true → xLk2 xTab 221 e := xThr_none (by decide +kernel)
theorem xd_222 : xDec (prog_14_method_140_code) xk_222 := xDecW_of (base := 0) (Nat.zero_le _) (by decide +kernel)
theorem xw_222 : ∀ w ∈ xk_222.flatMap (xWd xTab 222), w ∈ tTg xTab := xWB_of (qs := [(14, 195)]) (by decide +kernel)
theorem xs_222 : xk_222.all (xSd xTab xnM 222) = true := by decide +kernel
theorem xc_222 : ∀ e ∈ xk_222, xInv e = true → xCat xTab 222 e.1 := fun _ _ _ => xCat_nil rfl rfl
theorem xh_222 : ∀ e ∈ xk_222, xThr e = true → xLk2 xTab 222 e := xThr_none (by decide +kernel)
theorem xd_223 : xDec (prog_1_method_50_code) xk_223 := xDecW_of (base := 0) (Nat.zero_le _) (by decide +kernel)
theorem xw_223 : ∀ w ∈ xk_223.flatMap (xWd xTab 223), w ∈ tTg xTab := xWB_of (qs := [(9, 168), (8, 208), (14, 184), (14, 185), (14, 186)]) (by decide +kernel)
theorem xs_223 : xk_223.all (xSd xTab xnM 223) = true := by decide +kernel
theorem xc_223 : ∀ e ∈ xk_223, xInv e = true → xCat xTab 223 e.1 := fun _ _ _ => xCat_nil rfl rfl
theorem xh_223_9 : xLk2 xTab 223 (9, .new 202, 3, 4, 0, 1, 0) := ⟨204, by decide +kernel, by decide +kernel, by decide +kernel, by decide, rfl, rfl, by decide +kernel, xt_2⟩
theorem xh_223 : ∀ e ∈ xk_223, xThr e = true → xLk2 xTab 223 e := by
  intro e he ht
  have h : xk_223.filter xThr = [(9, .new 202, 3, 4, 0, 1, 0)] := by rfl
  have h2 := List.mem_filter.mpr ⟨he, ht⟩
  rw [h] at h2
  simp only [List.mem_cons, List.not_mem_nil, or_false] at h2
  rcases h2 with h2
  · rw [h2]; exact xh_223_9
theorem xd_224 : xDec (prog_11_method_2_code) xk_224 := xDecW_of (base := 0) (Nat.zero_le _) (by decide +kernel)
theorem xw_224 : ∀ w ∈ xk_224.flatMap (xWd xTab 224), w ∈ tTg xTab := xWB_of (qs := [(8, 124), (8, 124), (8, 130), (8, 130), (10, 190), (10, 192), (10, 191), (8, 14), (8, 137), (8, 137), (10, 190), (10, 192), (10, 191), (8, 14), (8, 144), (8, 144), (10, 190), (10, 192), (10, 191), (8, 14), (8, 150), (8, 150), (10, 190), (10, 192), (10, 191), (8, 14), (8, 154), (8, 154), (10, 190), (10, 192), (10, 191), (8, 14), (8, 157), (8, 157), (8, 161), (8, 161), (10, 190), (10, 192), (10, 191), (8, 14), (8, 165), (8, 165), (10, 190), (10, 192), (10, 191), (8, 14), (8, 169), (8, 169), (10, 190), (10, 192), (10, 191), (8, 14), (8, 173), (8, 173), (8, 175), (8, 175), (8, 178), (8, 178), (8, 181), (8, 181), (8, 184), (8, 184), (8, 188), (8, 188), (8, 192), (8, 192), (8, 196), (8, 196), (8, 201), (8, 201), (8, 205), (8, 205), (8, 207), (8, 207), (10, 193), (10, 194), (10, 195)]) (by decide +kernel)
theorem xs_224 : xk_224.all (xSd xTab xnM 224) = true := by decide +kernel
theorem xc_224 : ∀ e ∈ xk_224, xInv e = true → xCat xTab 224 e.1 := fun _ _ _ => xCat_nil rfl rfl
theorem xh_224 : ∀ e ∈ xk_224, xThr e = true → xLk2 xTab 224 e := xThr_none (by decide +kernel)
theorem xd_225 : xDec (prog_8_method_1_code) xk_225 := xDecW_of (base := 0) (Nat.zero_le _) (by decide +kernel)
theorem xw_225 : ∀ w ∈ xk_225.flatMap (xWd xTab 225), w ∈ tTg xTab := xWB_of (qs := [(8, 111), (8, 37), (8, 38), (8, 62), (8, 116)]) (by decide +kernel)
theorem xs_225 : xk_225.all (xSd xTab xnM 225) = true := by decide +kernel
theorem xc_225 : ∀ e ∈ xk_225, xInv e = true → xCat xTab 225 e.1 := fun _ _ _ => xCat_nil rfl rfl
theorem xh_225 : ∀ e ∈ xk_225, xThr e = true → xLk2 xTab 225 e := xThr_none (by decide +kernel)
theorem xd_226 : xDec (prog_3_method_2_code) xk_226 := xDecW_of (base := 0) (Nat.zero_le _) (by decide +kernel)
theorem xw_226 : ∀ w ∈ xk_226.flatMap (xWd xTab 226), w ∈ tTg xTab := xWB_of (qs := [(9, 19), (10, 223), (10, 224), (10, 225), (9, 19), (10, 230), (10, 231), (10, 232), (10, 234), (10, 236), (0, 8), (9, 19), (10, 230), (10, 231), (10, 232), (9, 19), (11, 188), (11, 189), (11, 190)]) (by decide +kernel)
theorem xs_226 : xk_226.all (xSd xTab xnM 226) = true := by decide +kernel
theorem xc_226 : ∀ e ∈ xk_226, xInv e = true → xCat xTab 226 e.1 := fun _ _ _ => xCat_nil rfl rfl
theorem xh_226 : ∀ e ∈ xk_226, xThr e = true → xLk2 xTab 226 e := xThr_none (by decide +kernel)
theorem xd_227 : xDec (prog_12_method_7_code) xk_227 := xDecW_of (base := 0) (Nat.zero_le _) (by decide +kernel)
theorem xw_227 : ∀ w ∈ xk_227.flatMap (xWd xTab 227), w ∈ tTg xTab := xWB_of (qs := [(8, 73), (8, 75)]) (by decide +kernel)
theorem xs_227 : xk_227.all (xSd xTab xnM 227) = true := by decide +kernel
theorem xc_227 : ∀ e ∈ xk_227, xInv e = true → xCat xTab 227 e.1 := fun _ _ _ => xCat_nil rfl rfl
theorem xh_227 : ∀ e ∈ xk_227, xThr e = true → xLk2 xTab 227 e := xThr_none (by decide +kernel)
theorem xd_228 : xDec (prog_14_method_20_code) xk_228 := xDecW_of (base := 0) (Nat.zero_le _) (by decide +kernel)
theorem xw_228 : ∀ w ∈ xk_228.flatMap (xWd xTab 228), w ∈ tTg xTab := xWB_of (qs := [(14, 205), (14, 204), (14, 205), (15, 71), (15, 73), (2, 12), (14, 205), (14, 205)]) (by decide +kernel)
theorem xs_228 : xk_228.all (xSd xTab xnM 228) = true := by decide +kernel
theorem xc_228 : ∀ e ∈ xk_228, xInv e = true → xCat xTab 228 e.1 := fun _ _ _ => xCat_nil rfl rfl
theorem xh_228 : ∀ e ∈ xk_228, xThr e = true → xLk2 xTab 228 e := xThr_none (by decide +kernel)
theorem xd_229 : xDec (prog_14_method_23_code) xk_229 := xDecW_of (base := 0) (Nat.zero_le _) (by decide +kernel)
theorem xw_229 : ∀ w ∈ xk_229.flatMap (xWd xTab 229), w ∈ tTg xTab := xWB_of (qs := [(14, 206), (14, 206)]) (by decide +kernel)
theorem xs_229 : xk_229.all (xSd xTab xnM 229) = true := by decide +kernel
theorem xc_229 : ∀ e ∈ xk_229, xInv e = true → xCat xTab 229 e.1 := fun _ _ _ => xCat_nil rfl rfl
theorem xh_229 : ∀ e ∈ xk_229, xThr e = true → xLk2 xTab 229 e := xThr_none (by decide +kernel)
theorem xd_230 : xDec (prog_14_method_46_code) xk_230 := xDecW_of (base := 0) (Nat.zero_le _) (by decide +kernel)
theorem xw_230 : ∀ w ∈ xk_230.flatMap (xWd xTab 230), w ∈ tTg xTab := xWB_of (qs := [(15, 84), (15, 86), (2, 15), (15, 84), (15, 86), (2, 15), (15, 84), (15, 86), (2, 15), (14, 205), (15, 75), (15, 77), (2, 13), (15, 92), (15, 94), (3, 0), (14, 206), (15, 84), (15, 86), (2, 15), (15, 101), (15, 103), (3, 2), (14, 206), (14, 212), (14, 212), (14, 211), (14, 211)]) (by decide +kernel)
theorem xs_230 : xk_230.all (xSd xTab xnM 230) = true := by decide +kernel
theorem xc_230 : ∀ e ∈ xk_230, xInv e = true → xCat xTab 230 e.1 := fun _ _ _ => xCat_nil rfl rfl
theorem xh_230 : ∀ e ∈ xk_230, xThr e = true → xLk2 xTab 230 e := xThr_none (by decide +kernel)
theorem xd_231 : xDec (prog_14_method_34_code) xk_231 := xDecW_of (base := 0) (Nat.zero_le _) (by decide +kernel)
theorem xw_231 : ∀ w ∈ xk_231.flatMap (xWd xTab 231), w ∈ tTg xTab := xWB_of (qs := [(15, 96), (15, 98), (3, 1), (15, 84), (15, 86), (2, 15), (15, 146), (15, 148), (3, 10), (15, 84), (15, 86), (2, 15), (15, 167), (15, 169), (3, 14), (15, 84), (15, 86), (2, 15), (15, 183), (15, 185), (4, 1), (15, 84), (15, 86), (2, 15), (15, 188), (15, 190), (4, 2), (15, 84), (15, 86), (2, 15), (15, 197), (15, 199), (4, 4), (15, 84), (15, 86), (2, 15), (15, 84), (15, 86), (2, 15), (15, 84), (15, 86), (2, 15), (15, 84), (15, 86), (2, 15), (15, 96), (15, 98), (3, 1), (15, 75), (15, 77), (2, 13), (14, 195), (15, 84), (15, 86), (2, 15), (15, 197), (15, 199), (4, 4), (15, 84), (15, 86), (2, 15), (15, 197), (15, 199), (4, 4), (15, 84), (15, 86), (2, 15), (15, 197), (15, 199), (4, 4), (14, 205), (15, 75), (15, 77), (2, 13)]) (by decide +kernel)
theorem xs_231 : xk_231.all (xSd xTab xnM 231) = true := by decide +kernel
theorem xc_231 : ∀ e ∈ xk_231, xInv e = true → xCat xTab 231 e.1 := fun _ _ _ => xCat_nil rfl rfl
theorem xh_231 : ∀ e ∈ xk_231, xThr e = true → xLk2 xTab 231 e := xThr_none (by decide +kernel)
theorem xd_232 : xDec (prog_14_method_21_code) xk_232 := xDecW_of (base := 0) (Nat.zero_le _) (by decide +kernel)
theorem xw_232 : ∀ w ∈ xk_232.flatMap (xWd xTab 232), w ∈ tTg xTab := xWB_of (qs := [(15, 67), (15, 69), (2, 11), (14, 205), (14, 204), (14, 205), (15, 71), (15, 73), (2, 12)]) (by decide +kernel)
theorem xs_232 : xk_232.all (xSd xTab xnM 232) = true := by decide +kernel
theorem xc_232 : ∀ e ∈ xk_232, xInv e = true → xCat xTab 232 e.1 := fun _ _ _ => xCat_nil rfl rfl
theorem xh_232 : ∀ e ∈ xk_232, xThr e = true → xLk2 xTab 232 e := xThr_none (by decide +kernel)
theorem xd_233 : xDec (prog_5_method_2_code) xk_233 := xDecW_of (base := 0) (Nat.zero_le _) (by decide +kernel)
theorem xw_233 : ∀ w ∈ xk_233.flatMap (xWd xTab 233), w ∈ tTg xTab := xWB_of (qs := [(9, 34), (9, 35), (9, 29), (12, 52), (10, 224), (10, 225), (9, 29), (12, 53), (10, 231), (10, 232), (9, 34), (12, 54), (12, 56), (1, 1), (9, 32), (9, 34), (9, 35), (9, 34), (9, 34), (9, 29), (12, 53), (10, 231), (10, 232), (9, 29), (12, 79), (11, 189), (11, 190)]) (by decide +kernel)
theorem xs_233 : xk_233.all (xSd xTab xnM 233) = true := by decide +kernel
theorem xc_233 : ∀ e ∈ xk_233, xInv e = true → xCat xTab 233 e.1 := fun _ _ _ => xCat_nil rfl rfl
theorem xh_233 : ∀ e ∈ xk_233, xThr e = true → xLk2 xTab 233 e := xThr_none (by decide +kernel)
theorem xd_234 : xDec (prog_5_method_3_code) xk_234 := xDecW_of (base := 0) (Nat.zero_le _) (by decide +kernel)
theorem xw_234 : ∀ w ∈ xk_234.flatMap (xWd xTab 234), w ∈ tTg xTab := xWB_of (qs := [(12, 104), (8, 40), (8, 2), (9, 34), (9, 30), (9, 31), (9, 32), (9, 33), (12, 105), (12, 106)]) (by decide +kernel)
theorem xs_234 : xk_234.all (xSd xTab xnM 234) = true := by decide +kernel
theorem xc_234 : ∀ e ∈ xk_234, xInv e = true → xCat xTab 234 e.1 := fun _ _ _ => xCat_nil rfl rfl
theorem xh_234 : ∀ e ∈ xk_234, xThr e = true → xLk2 xTab 234 e := xThr_none (by decide +kernel)
theorem xd_235 : xDec (prog_1_method_56_code) xk_235 := xDecW_of (base := 0) (Nat.zero_le _) (by decide +kernel)
theorem xw_235 : ∀ w ∈ xk_235.flatMap (xWd xTab 235), w ∈ tTg xTab := xWB_of (qs := [(9, 168), (8, 129)]) (by decide +kernel)
theorem xs_235 : xk_235.all (xSd xTab xnM 235) = true := by decide +kernel
theorem xc_235 : ∀ e ∈ xk_235, xInv e = true → xCat xTab 235 e.1 := fun _ _ _ => xCat_nil rfl rfl
theorem xh_235_15 : xLk2 xTab 235 (15, .new 265, 3, 2, 0, 1, 0) := ⟨267, by decide +kernel, by decide +kernel, by decide +kernel, by decide, rfl, rfl, by decide +kernel, xt_3⟩
theorem xh_235 : ∀ e ∈ xk_235, xThr e = true → xLk2 xTab 235 e := by
  intro e he ht
  have h : xk_235.filter xThr = [(15, .new 265, 3, 2, 0, 1, 0)] := by rfl
  have h2 := List.mem_filter.mpr ⟨he, ht⟩
  rw [h] at h2
  simp only [List.mem_cons, List.not_mem_nil, or_false] at h2
  rcases h2 with h2
  · rw [h2]; exact xh_235_15
theorem xd_236 : xDec (prog_11_method_7_code) xk_236 := xDecW_of (base := 0) (Nat.zero_le _) (by decide +kernel)
theorem xw_236 : ∀ w ∈ xk_236.flatMap (xWd xTab 236), w ∈ tTg xTab := xWB_of (qs := [(8, 157), (8, 169)]) (by decide +kernel)
theorem xs_236 : xk_236.all (xSd xTab xnM 236) = true := by decide +kernel
theorem xc_236 : ∀ e ∈ xk_236, xInv e = true → xCat xTab 236 e.1 := fun _ _ _ => xCat_nil rfl rfl
theorem xh_236 : ∀ e ∈ xk_236, xThr e = true → xLk2 xTab 236 e := xThr_none (by decide +kernel)
theorem xd_237 : xDec (prog_9_method_2_code) xk_237 := xDecW_of (base := 0) (Nat.zero_le _) (by decide +kernel)
theorem xw_237 : ∀ w ∈ xk_237.flatMap (xWd xTab 237), w ∈ tTg xTab := xWB_of (qs := [(12, 153), (12, 155), (1, 7), (12, 157), (12, 158), (9, 91), (12, 167), (10, 113)]) (by decide +kernel)
theorem xs_237 : xk_237.all (xSd xTab xnM 237) = true := by decide +kernel
theorem xc_237 : ∀ e ∈ xk_237, xInv e = true → xCat xTab 237 e.1 := fun _ _ _ => xCat_nil rfl rfl
theorem xh_237 : ∀ e ∈ xk_237, xThr e = true → xLk2 xTab 237 e := xThr_none (by decide +kernel)
theorem xd_238 : xDec (prog_9_method_3_code) xk_238 := xDecW_of (base := 0) (Nat.zero_le _) (by decide +kernel)
theorem xw_238 : ∀ w ∈ xk_238.flatMap (xWd xTab 238), w ∈ tTg xTab := xWB_of (qs := [(12, 153), (12, 155), (1, 7), (12, 157), (12, 158), (9, 91), (12, 167), (10, 113), (12, 161), (12, 162)]) (by decide +kernel)
theorem xs_238 : xk_238.all (xSd xTab xnM 238) = true := by decide +kernel
theorem xc_238 : ∀ e ∈ xk_238, xInv e = true → xCat xTab 238 e.1 := fun _ _ _ => xCat_nil rfl rfl
theorem xh_238 : ∀ e ∈ xk_238, xThr e = true → xLk2 xTab 238 e := xThr_none (by decide +kernel)
theorem xd_239 : xDec (prog_7_method_11_code) xk_239 := xDecW_of (base := 0) (Nat.zero_le _) (by decide +kernel)
theorem xw_239 : ∀ w ∈ xk_239.flatMap (xWd xTab 239), w ∈ tTg xTab := xWB_of (qs := [(9, 114), (12, 176), (10, 107), (10, 108), (9, 115), (10, 28), (10, 29), (10, 30), (8, 149), (8, 149), (9, 114), (12, 176), (10, 107), (10, 108), (9, 115), (10, 28), (10, 29), (10, 30), (8, 149), (9, 115), (9, 115), (12, 177), (12, 178)]) (by decide +kernel)
theorem xs_239 : xk_239.all (xSd xTab xnM 239) = true := by decide +kernel
theorem xc_239 : ∀ e ∈ xk_239, xInv e = true → xCat xTab 239 e.1 := fun _ _ _ => xCat_nil rfl rfl
theorem xh_239 : ∀ e ∈ xk_239, xThr e = true → xLk2 xTab 239 e := xThr_none (by decide +kernel)
theorem xd_240 : xDec (prog_6_method_16_code) xk_240 := xDecW_of (base := 0) (Nat.zero_le _) (by decide +kernel)
theorem xw_240 : ∀ w ∈ xk_240.flatMap (xWd xTab 240), w ∈ tTg xTab := xWB_of (qs := [(12, 184), (12, 185), (12, 186)]) (by decide +kernel)
theorem xs_240 : xk_240.all (xSd xTab xnM 240) = true := by decide +kernel
theorem xc_240 : ∀ e ∈ xk_240, xInv e = true → xCat xTab 240 e.1 := fun _ _ _ => xCat_nil rfl rfl
theorem xh_240 : ∀ e ∈ xk_240, xThr e = true → xLk2 xTab 240 e := xThr_none (by decide +kernel)
theorem xd_241 : xDec (prog_6_method_20_code) xk_241 := xDecW_of (base := 0) (Nat.zero_le _) (by decide +kernel)
theorem xw_241 : ∀ w ∈ xk_241.flatMap (xWd xTab 241), w ∈ tTg xTab := xWB_of (qs := [(12, 192), (12, 193), (12, 194), (12, 197), (11, 154), (11, 155), (8, 152)]) (by decide +kernel)
theorem xs_241 : xk_241.all (xSd xTab xnM 241) = true := by decide +kernel
theorem xc_241 : ∀ e ∈ xk_241, xInv e = true → xCat xTab 241 e.1 := fun _ _ _ => xCat_nil rfl rfl
theorem xh_241 : ∀ e ∈ xk_241, xThr e = true → xLk2 xTab 241 e := xThr_none (by decide +kernel)
theorem xd_242 : xDec (prog_1_method_57_code) xk_242 := xDecW_of (base := 0) (Nat.zero_le _) (by decide +kernel)
theorem xw_242 : ∀ w ∈ xk_242.flatMap (xWd xTab 242), w ∈ tTg xTab := xWB_of (qs := [(9, 168), (8, 160)]) (by decide +kernel)
theorem xs_242 : xk_242.all (xSd xTab xnM 242) = true := by decide +kernel
theorem xc_242 : ∀ e ∈ xk_242, xInv e = true → xCat xTab 242 e.1 := fun _ _ _ => xCat_nil rfl rfl
theorem xh_242_15 : xLk2 xTab 242 (15, .new 265, 3, 2, 0, 1, 0) := ⟨267, by decide +kernel, by decide +kernel, by decide +kernel, by decide, rfl, rfl, by decide +kernel, xt_3⟩
theorem xh_242 : ∀ e ∈ xk_242, xThr e = true → xLk2 xTab 242 e := by
  intro e he ht
  have h : xk_242.filter xThr = [(15, .new 265, 3, 2, 0, 1, 0)] := by rfl
  have h2 := List.mem_filter.mpr ⟨he, ht⟩
  rw [h] at h2
  simp only [List.mem_cons, List.not_mem_nil, or_false] at h2
  rcases h2 with h2
  · rw [h2]; exact xh_242_15
theorem xd_243 : xDec (prog_6_method_6_code) xk_243 := xDecW_of (base := 0) (Nat.zero_le _) (by decide +kernel)
theorem xw_243 : ∀ w ∈ xk_243.flatMap (xWd xTab 243), w ∈ tTg xTab := xWB_of (qs := [(10, 122), (10, 124), (0, 5)]) (by decide +kernel)
theorem xs_243 : xk_243.all (xSd xTab xnM 243) = true := by decide +kernel
theorem xc_243 : ∀ e ∈ xk_243, xInv e = true → xCat xTab 243 e.1 := fun _ _ _ => xCat_nil rfl rfl
theorem xh_243 : ∀ e ∈ xk_243, xThr e = true → xLk2 xTab 243 e := xThr_none (by decide +kernel)
theorem xd_244 : xDec (prog_6_method_13_code) xk_244 := xDecW_of (base := 0) (Nat.zero_le _) (by decide +kernel)
theorem xw_244 : ∀ w ∈ xk_244.flatMap (xWd xTab 244), w ∈ tTg xTab := xWB_of (qs := [(8, 159), (9, 138), (8, 171), (8, 159), (8, 159), (9, 137), (12, 232), (12, 234), (1, 9), (8, 159), (12, 236), (12, 238), (1, 10), (9, 138), (9, 137), (9, 138)]) (by decide +kernel)
theorem xs_244 : xk_244.all (xSd xTab xnM 244) = true := by decide +kernel
theorem xc_244 : ∀ e ∈ xk_244, xInv e = true → xCat xTab 244 e.1 := fun _ _ _ => xCat_nil rfl rfl
theorem xh_244 : ∀ e ∈ xk_244, xThr e = true → xLk2 xTab 244 e := xThr_none (by decide +kernel)
theorem xd_245 : xDec (prog_14_method_58_code) xk_245 := xDecW_of (base := 0) (Nat.zero_le _) (by decide +kernel)
theorem xw_245 : ∀ w ∈ xk_245.flatMap (xWd xTab 245), w ∈ tTg xTab := xWB_of (qs := [(15, 227), (15, 229), (4, 7), (16, 37), (16, 39), (5, 1), (15, 192), (15, 194), (4, 3), (15, 178), (15, 180), (4, 0), (15, 160), (15, 161), (14, 211), (15, 192), (15, 194), (4, 3), (15, 178), (15, 180), (4, 0), (14, 212), (14, 208), (14, 208), (14, 208), (15, 192), (15, 194), (4, 3), (14, 208), (15, 192), (15, 194), (4, 3), (14, 208), (15, 192), (15, 194), (4, 3), (14, 208), (14, 208), (14, 213), (14, 208), (14, 195), (14, 209), (14, 210), (14, 195), (14, 210), (16, 41), (16, 43), (5, 2), (14, 210), (14, 206), (14, 206), (14, 203), (14, 195), (14, 195), (14, 204), (14, 205), (14, 207), (15, 63), (15, 65), (2, 10), (14, 206)]) (by decide +kernel)
theorem xs_245 : xk_245.all (xSd xTab xnM 245) = true := by decide +kernel
theorem xc_245 : ∀ e ∈ xk_245, xInv e = true → xCat xTab 245 e.1 := fun _ _ _ => xCat_nil rfl rfl
theorem xh_245 : ∀ e ∈ xk_245, xThr e = true → xLk2 xTab 245 e := xThr_none (by decide +kernel)
theorem xd_246 : xDec (prog_14_method_124_code) xk_246 := xDecW_of (base := 0) (Nat.zero_le _) (by decide +kernel)
theorem xw_246 : ∀ w ∈ xk_246.flatMap (xWd xTab 246), w ∈ tTg xTab := xWB_of (qs := [(16, 80), (16, 82), (5, 10), (16, 80), (16, 82), (5, 10)]) (by decide +kernel)
theorem xs_246 : xk_246.all (xSd xTab xnM 246) = true := by decide +kernel
theorem xc_246 : ∀ e ∈ xk_246, xInv e = true → xCat xTab 246 e.1 := fun _ _ _ => xCat_nil rfl rfl
theorem xh_246 : ∀ e ∈ xk_246, xThr e = true → xLk2 xTab 246 e := xThr_none (by decide +kernel)
theorem xd_247 : xDec (prog_14_method_123_code) xk_247 := xDecW_of (base := 0) (Nat.zero_le _) (by decide +kernel)
theorem xw_247 : ∀ w ∈ xk_247.flatMap (xWd xTab 247), w ∈ tTg xTab := xWB_of (qs := [(14, 195), (16, 57), (16, 58), (15, 178), (15, 180), (4, 0), (16, 33), (16, 35), (5, 0), (14, 212), (14, 211), (14, 211)]) (by decide +kernel)
theorem xs_247 : xk_247.all (xSd xTab xnM 247) = true := by decide +kernel
theorem xc_247 : ∀ e ∈ xk_247, xInv e = true → xCat xTab 247 e.1 := fun _ _ _ => xCat_nil rfl rfl
theorem xh_247 : ∀ e ∈ xk_247, xThr e = true → xLk2 xTab 247 e := xThr_none (by decide +kernel)
theorem xd_248 : xDec (prog_6_method_4_code) xk_248 := xDecW_of (base := 0) (Nat.zero_le _) (by decide +kernel)
theorem xw_248 : ∀ w ∈ xk_248.flatMap (xWd xTab 248), w ∈ tTg xTab := xWB_of (qs := [(10, 130), (10, 132), (0, 6), (9, 133), (8, 166), (10, 146), (10, 53), (8, 176), (9, 135), (10, 147), (10, 148), (10, 149)]) (by decide +kernel)
theorem xs_248 : xk_248.all (xSd xTab xnM 248) = true := by decide +kernel
theorem xc_248 : ∀ e ∈ xk_248, xInv e = true → xCat xTab 248 e.1 := fun _ _ _ => xCat_nil rfl rfl
theorem xh_248 : ∀ e ∈ xk_248, xThr e = true → xLk2 xTab 248 e := xThr_none (by decide +kernel)
theorem xd_249 : xDec (prog_6_method_5_code) xk_249 := xDecW_of (base := 0) (Nat.zero_le _) (by decide +kernel)
theorem xw_249 : ∀ w ∈ xk_249.flatMap (xWd xTab 249), w ∈ tTg xTab := xWB_of (qs := [(8, 162), (10, 130), (10, 132), (0, 6), (8, 176), (9, 135), (10, 134), (10, 135), (10, 136)]) (by decide +kernel)
theorem xs_249 : xk_249.all (xSd xTab xnM 249) = true := by decide +kernel
theorem xc_249 : ∀ e ∈ xk_249, xInv e = true → xCat xTab 249 e.1 := fun _ _ _ => xCat_nil rfl rfl
theorem xh_249 : ∀ e ∈ xk_249, xThr e = true → xLk2 xTab 249 e := xThr_none (by decide +kernel)
theorem xd_250 : xDec (prog_1_method_59_code) xk_250 := xDecW_of (base := 0) (Nat.zero_le _) (by decide +kernel)
theorem xw_250 : ∀ w ∈ xk_250.flatMap (xWd xTab 250), w ∈ tTg xTab := xWB_of (qs := [(12, 129), (12, 131), (1, 6), (12, 129), (12, 131), (1, 6), (13, 27), (13, 29), (1, 12)]) (by decide +kernel)
theorem xs_250 : xk_250.all (xSd xTab xnM 250) = true := by decide +kernel
theorem xc_250 : ∀ e ∈ xk_250, xInv e = true → xCat xTab 250 e.1 := fun _ _ _ => xCat_nil rfl rfl
theorem xh_250 : ∀ e ∈ xk_250, xThr e = true → xLk2 xTab 250 e := xThr_none (by decide +kernel)
theorem xd_251 : xDec (prog_11_method_10_code) xk_251 := xDecW_of (base := 0) (Nat.zero_le _) (by decide +kernel)
theorem xw_251 : ∀ w ∈ xk_251.flatMap (xWd xTab 251), w ∈ tTg xTab := xWB_of (qs := [(8, 154)]) (by decide +kernel)
theorem xs_251 : xk_251.all (xSd xTab xnM 251) = true := by decide +kernel
theorem xc_251 : ∀ e ∈ xk_251, xInv e = true → xCat xTab 251 e.1 := fun _ _ _ => xCat_nil rfl rfl
theorem xh_251 : ∀ e ∈ xk_251, xThr e = true → xLk2 xTab 251 e := xThr_none (by decide +kernel)
theorem xd_252 : xDec (prog_1_method_63_code) xk_252 := xDecW_of (base := 0) (Nat.zero_le _) (by decide +kernel)
theorem xw_252 : ∀ w ∈ xk_252.flatMap (xWd xTab 252), w ∈ tTg xTab := xWB_of (qs := [(13, 46), (13, 48), (1, 14), (9, 178), (9, 168), (13, 51), (10, 26), (9, 177), (10, 156), (10, 29), (10, 30)]) (by decide +kernel)
theorem xs_252 : xk_252.all (xSd xTab xnM 252) = true := by decide +kernel
theorem xc_252 : ∀ e ∈ xk_252, xInv e = true → xCat xTab 252 e.1 := fun _ _ _ => xCat_nil rfl rfl
theorem xh_252 : ∀ e ∈ xk_252, xThr e = true → xLk2 xTab 252 e := xThr_none (by decide +kernel)
theorem xd_253 : xDec (prog_10_method_13_code) xk_253 := xDecW_of (base := 0) (Nat.zero_le _) (by decide +kernel)
theorem xw_253 : ∀ w ∈ xk_253.flatMap (xWd xTab 253), w ∈ tTg xTab := xWB_of (qs := []) (by decide +kernel)
theorem xs_253 : xk_253.all (xSd xTab xnM 253) = true := by decide +kernel
theorem xc_253 : ∀ e ∈ xk_253, xInv e = true → xCat xTab 253 e.1 := fun _ _ _ => xCat_nil rfl rfl
theorem xh_253 : ∀ e ∈ xk_253, xThr e = true → xLk2 xTab 253 e := xThr_none (by decide +kernel)
theorem xd_254 : xDec (prog_14_method_51_code) xk_254 := xDecW_of (base := 0) (Nat.zero_le _) (by decide +kernel)
theorem xw_254 : ∀ w ∈ xk_254.flatMap (xWd xTab 254), w ∈ tTg xTab := xWB_of (qs := [(15, 192), (15, 194), (4, 3), (15, 239), (16, 0), (15, 192), (15, 194), (4, 3), (15, 239), (16, 0), (15, 192), (15, 194), (4, 3), (16, 2), (16, 3), (15, 192), (15, 194), (4, 3), (16, 2), (16, 3), (15, 192), (15, 194), (4, 3), (16, 2), (16, 3), (15, 192), (15, 194), (4, 3), (16, 2), (16, 3), (14, 195), (14, 195), (14, 213), (14, 214)]) (by decide +kernel)
theorem xs_254 : xk_254.all (xSd xTab xnM 254) = true := by decide +kernel
theorem xc_254 : ∀ e ∈ xk_254, xInv e = true → xCat xTab 254 e.1 := fun _ _ _ => xCat_nil rfl rfl
theorem xh_254 : ∀ e ∈ xk_254, xThr e = true → xLk2 xTab 254 e := xThr_none (by decide +kernel)
theorem xd_255 : xDec (prog_1_method_61_code) xk_255 := xDecW_of (base := 0) (Nat.zero_le _) (by decide +kernel)
theorem xw_255 : ∀ w ∈ xk_255.flatMap (xWd xTab 255), w ∈ tTg xTab := xWB_of (qs := []) (by decide +kernel)
theorem xs_255 : xk_255.all (xSd xTab xnM 255) = true := by decide +kernel
theorem xc_255 : ∀ e ∈ xk_255, xInv e = true → xCat xTab 255 e.1 := fun _ _ _ => xCat_nil rfl rfl
theorem xh_255_10 : xLk2 xTab 255 (10, .new 128, 3, 0, 0, 1, 0) := ⟨130, by decide +kernel, by decide +kernel, by decide +kernel, by decide, rfl, rfl, by decide +kernel, xt_0⟩
theorem xh_255 : ∀ e ∈ xk_255, xThr e = true → xLk2 xTab 255 e := by
  intro e he ht
  have h : xk_255.filter xThr = [(10, .new 128, 3, 0, 0, 1, 0)] := by rfl
  have h2 := List.mem_filter.mpr ⟨he, ht⟩
  rw [h] at h2
  simp only [List.mem_cons, List.not_mem_nil, or_false] at h2
  rcases h2 with h2
  · rw [h2]; exact xh_255_10
theorem xd_256 : xDec (prog_1_method_64_code) xk_256 := xDecW_of (base := 0) (Nat.zero_le _) (by decide +kernel)
theorem xw_256 : ∀ w ∈ xk_256.flatMap (xWd xTab 256), w ∈ tTg xTab := xWB_of (qs := [(9, 172), (9, 173), (9, 168), (10, 186), (10, 187), (10, 188), (9, 173), (9, 173), (9, 173), (9, 174), (13, 70), (10, 56), (9, 174)]) (by decide +kernel)
theorem xs_256 : xk_256.all (xSd xTab xnM 256) = true := by decide +kernel
theorem xc_256 : ∀ e ∈ xk_256, xInv e = true → xCat xTab 256 e.1 := fun _ _ _ => xCat_nil rfl rfl
theorem xh_256 : ∀ e ∈ xk_256, xThr e = true → xLk2 xTab 256 e := xThr_none (by decide +kernel)
theorem xd_257 : xDec (prog_2_method_2_code) xk_257 := xDecW_of (base := 0) (Nat.zero_le _) (by decide +kernel)
theorem xw_257 : ∀ w ∈ xk_257.flatMap (xWd xTab 257), w ∈ tTg xTab := xWB_of (qs := [(9, 162), (13, 75), (10, 103), (10, 104), (13, 76), (13, 77), (9, 162), (13, 75), (10, 103), (10, 104), (8, 156), (9, 162), (13, 84), (13, 85), (13, 86), (8, 200), (13, 89), (10, 56), (8, 200)]) (by decide +kernel)
theorem xs_257 : xk_257.all (xSd xTab xnM 257) = true := by decide +kernel
theorem xc_257 : ∀ e ∈ xk_257, xInv e = true → xCat xTab 257 e.1 := fun _ _ _ => xCat_nil rfl rfl
theorem xh_257 : ∀ e ∈ xk_257, xThr e = true → xLk2 xTab 257 e := xThr_none (by decide +kernel)
theorem xd_258 : xDec (prog_24_method_49_code) xk_258 := xDecW_of (base := 0) (Nat.zero_le _) (by decide +kernel)
theorem xw_258 : ∀ w ∈ xk_258.flatMap (xWd xTab 258), w ∈ tTg xTab := xWB_of (qs := [(13, 93), (13, 94), (13, 94), (13, 95)]) (by decide +kernel)
theorem xs_258 : xk_258.all (xSd xTab xnM 258) = true := by decide +kernel
theorem xc_258 : ∀ e ∈ xk_258, xInv e = true → xCat xTab 258 e.1 := fun _ _ _ => xCat_nil rfl rfl
theorem xh_258 : ∀ e ∈ xk_258, xThr e = true → xLk2 xTab 258 e := xThr_none (by decide +kernel)
theorem xd_259 : xDec (prog_14_method_65_code) xk_259 := xDecW_of (base := 0) (Nat.zero_le _) (by decide +kernel)
theorem xw_259 : ∀ w ∈ xk_259.flatMap (xWd xTab 259), w ∈ tTg xTab := xWB_of (qs := [(14, 195), (16, 136), (16, 138), (6, 3), (14, 195), (16, 145), (16, 147), (6, 5), (14, 195), (14, 195), (16, 149), (16, 150)]) (by decide +kernel)
theorem xs_259 : xk_259.all (xSd xTab xnM 259) = true := by decide +kernel
theorem xc_259 : ∀ e ∈ xk_259, xInv e = true → xCat xTab 259 e.1 := fun _ _ _ => xCat_nil rfl rfl
theorem xh_259 : ∀ e ∈ xk_259, xThr e = true → xLk2 xTab 259 e := xThr_none (by decide +kernel)
theorem xd_260 : xDec (prog_11_method_6_code) xk_260 := xDecW_of (base := 0) (Nat.zero_le _) (by decide +kernel)
theorem xw_260 : ∀ w ∈ xk_260.flatMap (xWd xTab 260), w ∈ tTg xTab := xWB_of (qs := [(13, 123), (10, 22), (10, 23), (10, 110), (10, 26)]) (by decide +kernel)
theorem xs_260 : xk_260.all (xSd xTab xnM 260) = true := by decide +kernel
theorem xc_260 : ∀ e ∈ xk_260, xInv e = true → xCat xTab 260 e.1 := fun _ _ _ => xCat_nil rfl rfl
theorem xh_260 : ∀ e ∈ xk_260, xThr e = true → xLk2 xTab 260 e := xThr_none (by decide +kernel)
theorem xd_261 : xDec (prog_8_method_3_code) xk_261 := xDecW_of (base := 0) (Nat.zero_le _) (by decide +kernel)
theorem xw_261 : ∀ w ∈ xk_261.flatMap (xWd xTab 261), w ∈ tTg xTab := xWB_of (qs := [(8, 116), (8, 116), (10, 197), (10, 192), (10, 191), (8, 14), (8, 116), (8, 112), (8, 116), (8, 116), (8, 116), (8, 114), (13, 142), (10, 56), (8, 114), (8, 112), (13, 142), (10, 56), (8, 112)]) (by decide +kernel)
theorem xs_261 : xk_261.all (xSd xTab xnM 261) = true := by decide +kernel
theorem xc_261 : ∀ e ∈ xk_261, xInv e = true → xCat xTab 261 e.1 := fun _ _ _ => xCat_nil rfl rfl
theorem xh_261 : ∀ e ∈ xk_261, xThr e = true → xLk2 xTab 261 e := xThr_none (by decide +kernel)
theorem xd_262 : xDec (prog_11_method_11_code) xk_262 := xDecW_of (base := 0) (Nat.zero_le _) (by decide +kernel)
theorem xw_262 : ∀ w ∈ xk_262.flatMap (xWd xTab 262), w ∈ tTg xTab := xWB_of (qs := [(8, 154), (8, 154), (8, 154), (8, 154), (8, 154), (8, 154)]) (by decide +kernel)
theorem xs_262 : xk_262.all (xSd xTab xnM 262) = true := by decide +kernel
theorem xc_262 : ∀ e ∈ xk_262, xInv e = true → xCat xTab 262 e.1 := fun _ _ _ => xCat_nil rfl rfl
theorem xh_262 : ∀ e ∈ xk_262, xThr e = true → xLk2 xTab 262 e := xThr_none (by decide +kernel)
theorem xd_263 : xDec (prog_10_method_14_code) xk_263 := xDecW_of (base := 0) (Nat.zero_le _) (by decide +kernel)
theorem xw_263 : ∀ w ∈ xk_263.flatMap (xWd xTab 263), w ∈ tTg xTab := xWB_of (qs := []) (by decide +kernel)
theorem xs_263 : xk_263.all (xSd xTab xnM 263) = true := by decide +kernel
theorem xc_263 : ∀ e ∈ xk_263, xInv e = true → xCat xTab 263 e.1 := fun _ _ _ => xCat_nil rfl rfl
theorem xh_263 : ∀ e ∈ xk_263, xThr e = true → xLk2 xTab 263 e := xThr_none (by decide +kernel)
theorem xd_264 : xDec (prog_1_method_58_code) xk_264 := xDecW_of (base := 0) (Nat.zero_le _) (by decide +kernel)
theorem xw_264 : ∀ w ∈ xk_264.flatMap (xWd xTab 264), w ∈ tTg xTab := xWB_of (qs := [(12, 129), (12, 131), (1, 6), (9, 168), (13, 50), (10, 22), (10, 23)]) (by decide +kernel)
theorem xs_264 : xk_264.all (xSd xTab xnM 264) = true := by decide +kernel
theorem xc_264 : ∀ e ∈ xk_264, xInv e = true → xCat xTab 264 e.1 := fun _ _ _ => xCat_nil rfl rfl
theorem xh_264_18 : xLk2 xTab 264 (18, .new 265, 3, 2, 0, 1, 0) := ⟨267, by decide +kernel, by decide +kernel, by decide +kernel, by decide, rfl, rfl, by decide +kernel, xt_3⟩
theorem xh_264 : ∀ e ∈ xk_264, xThr e = true → xLk2 xTab 264 e := by
  intro e he ht
  have h : xk_264.filter xThr = [(18, .new 265, 3, 2, 0, 1, 0)] := by rfl
  have h2 := List.mem_filter.mpr ⟨he, ht⟩
  rw [h] at h2
  simp only [List.mem_cons, List.not_mem_nil, or_false] at h2
  rcases h2 with h2
  · rw [h2]; exact xh_264_18
theorem xd_265 : xDec (prog_11_method_3_code) xk_265 := xDecW_of (base := 0) (Nat.zero_le _) (by decide +kernel)
theorem xw_265 : ∀ w ∈ xk_265.flatMap (xWd xTab 265), w ∈ tTg xTab := xWB_of (qs := []) (by decide +kernel)
theorem xs_265 : xk_265.all (xSd xTab xnM 265) = true := by decide +kernel
theorem xc_265 : ∀ e ∈ xk_265, xInv e = true → xCat xTab 265 e.1 := fun _ _ _ => xCat_nil rfl rfl
theorem xh_265 : ∀ e ∈ xk_265, xThr e = true → xLk2 xTab 265 e := xThr_none (by decide +kernel)
theorem xd_266 : xDec (prog_10_method_3_code) xk_266 := xDecW_of (base := 0) (Nat.zero_le _) (by decide +kernel)
theorem xw_266 : ∀ w ∈ xk_266.flatMap (xWd xTab 266), w ∈ tTg xTab := xWB_of (qs := [(10, 35), (10, 37), (0, 1), (8, 193), (8, 193), (8, 193), (10, 41), (10, 15), (10, 42), (10, 44), (0, 2), (9, 63), (9, 64), (13, 205), (13, 206), (13, 205), (13, 206)]) (by decide +kernel)
theorem xs_266 : xk_266.all (xSd xTab xnM 266) = true := by decide +kernel
theorem xc_266 : ∀ e ∈ xk_266, xInv e = true → xCat xTab 266 e.1 := fun _ _ _ => xCat_nil rfl rfl
theorem xh_266 : ∀ e ∈ xk_266, xThr e = true → xLk2 xTab 266 e := xThr_none (by decide +kernel)
theorem xd_267 : xDec (prog_12_method_18_code) xk_267 := xDecW_of (base := 0) (Nat.zero_le _) (by decide +kernel)
theorem xw_267 : ∀ w ∈ xk_267.flatMap (xWd xTab 267), w ∈ tTg xTab := xWB_of (qs := [(8, 70), (8, 70), (8, 79), (8, 80), (8, 70), (8, 69), (8, 69), (8, 79), (8, 79), (8, 80), (8, 80), (8, 70)]) (by decide +kernel)
theorem xs_267 : xk_267.all (xSd xTab xnM 267) = true := by decide +kernel
theorem xc_267 : ∀ e ∈ xk_267, xInv e = true → xCat xTab 267 e.1 := fun _ _ _ => xCat_nil rfl rfl
theorem xh_267 : ∀ e ∈ xk_267, xThr e = true → xLk2 xTab 267 e := xThr_none (by decide +kernel)
theorem xd_268 : xDec (prog_1_method_62_code) xk_268 := xDecW_of (base := 0) (Nat.zero_le _) (by decide +kernel)
theorem xw_268 : ∀ w ∈ xk_268.flatMap (xWd xTab 268), w ∈ tTg xTab := xWB_of (qs := []) (by decide +kernel)
theorem xs_268 : xk_268.all (xSd xTab xnM 268) = true := by decide +kernel
theorem xc_268 : ∀ e ∈ xk_268, xInv e = true → xCat xTab 268 e.1 := fun _ _ _ => xCat_nil rfl rfl
theorem xh_268_4 : xLk2 xTab 268 (4, .new 128, 3, 0, 0, 1, 0) := ⟨130, by decide +kernel, by decide +kernel, by decide +kernel, by decide, rfl, rfl, by decide +kernel, xt_0⟩
theorem xh_268 : ∀ e ∈ xk_268, xThr e = true → xLk2 xTab 268 e := by
  intro e he ht
  have h : xk_268.filter xThr = [(4, .new 128, 3, 0, 0, 1, 0)] := by rfl
  have h2 := List.mem_filter.mpr ⟨he, ht⟩
  rw [h] at h2
  simp only [List.mem_cons, List.not_mem_nil, or_false] at h2
  rcases h2 with h2
  · rw [h2]; exact xh_268_4
theorem xd_269 : xDec (prog_9_method_4_code) xk_269 := xDecW_of (base := 0) (Nat.zero_le _) (by decide +kernel)
theorem xw_269 : ∀ w ∈ xk_269.flatMap (xWd xTab 269), w ∈ tTg xTab := xWB_of (qs := [(12, 153), (12, 155), (1, 7), (12, 157), (12, 158), (9, 91), (13, 227), (13, 228), (13, 229), (12, 161), (12, 162)]) (by decide +kernel)
theorem xs_269 : xk_269.all (xSd xTab xnM 269) = true := by decide +kernel
theorem xc_269 : ∀ e ∈ xk_269, xInv e = true → xCat xTab 269 e.1 := fun _ _ _ => xCat_nil rfl rfl
theorem xh_269 : ∀ e ∈ xk_269, xThr e = true → xLk2 xTab 269 e := xThr_none (by decide +kernel)
theorem xd_270 : xDec (prog_14_method_100_code) xk_270 := xDecW_of (base := 0) (Nat.zero_le _) (by decide +kernel)
theorem xw_270 : ∀ w ∈ xk_270.flatMap (xWd xTab 270), w ∈ tTg xTab := xWB_of (qs := [(14, 201), (15, 48), (15, 49), (14, 201)]) (by decide +kernel)
theorem xs_270 : xk_270.all (xSd xTab xnM 270) = true := by decide +kernel
theorem xc_270 : ∀ e ∈ xk_270, xInv e = true → xCat xTab 270 e.1 := fun _ _ _ => xCat_nil rfl rfl
theorem xh_270 : ∀ e ∈ xk_270, xThr e = true → xLk2 xTab 270 e := xThr_none (by decide +kernel)
theorem xd_271 : xDec (prog_9_method_5_code) xk_271 := xDecW_of (base := 0) (Nat.zero_le _) (by decide +kernel)
theorem xw_271 : ∀ w ∈ xk_271.flatMap (xWd xTab 271), w ∈ tTg xTab := xWB_of (qs := [(12, 157), (12, 158), (12, 153), (12, 155), (1, 7), (9, 93), (9, 91), (13, 227), (13, 228), (13, 229), (9, 93), (9, 92), (14, 5), (14, 7), (2, 2), (14, 10), (14, 12), (2, 3)]) (by decide +kernel)
theorem xs_271 : xk_271.all (xSd xTab xnM 271) = true := by decide +kernel
theorem xc_271 : ∀ e ∈ xk_271, xInv e = true → xCat xTab 271 e.1 := fun _ _ _ => xCat_nil rfl rfl
theorem xh_271 : ∀ e ∈ xk_271, xThr e = true → xLk2 xTab 271 e := xThr_none (by decide +kernel)
theorem xd_272 : xDec (prog_14_method_106_code) xk_272 := xDecW_of (base := 0) (Nat.zero_le _) (by decide +kernel)
theorem xw_272 : ∀ w ∈ xk_272.flatMap (xWd xTab 272), w ∈ tTg xTab := xWB_of (qs := [(14, 218), (14, 218)]) (by decide +kernel)
theorem xs_272 : xk_272.all (xSd xTab xnM 272) = true := by decide +kernel
theorem xc_272 : ∀ e ∈ xk_272, xInv e = true → xCat xTab 272 e.1 := fun _ _ _ => xCat_nil rfl rfl
theorem xh_272 : ∀ e ∈ xk_272, xThr e = true → xLk2 xTab 272 e := xThr_none (by decide +kernel)
theorem xd_273 : xDec (prog_12_method_19_code) xk_273 := xDecW_of (base := 0) (Nat.zero_le _) (by decide +kernel)
theorem xw_273 : ∀ w ∈ xk_273.flatMap (xWd xTab 273), w ∈ tTg xTab := xWB_of (qs := [(13, 231), (13, 232), (8, 79), (8, 79), (8, 80)]) (by decide +kernel)
theorem xs_273 : xk_273.all (xSd xTab xnM 273) = true := by decide +kernel
theorem xc_273 : ∀ e ∈ xk_273, xInv e = true → xCat xTab 273 e.1 := fun _ _ _ => xCat_nil rfl rfl
theorem xh_273 : ∀ e ∈ xk_273, xThr e = true → xLk2 xTab 273 e := xThr_none (by decide +kernel)
theorem xd_274 : xDec (prog_7_method_2_code) xk_274 := xDecW_of (base := 0) (Nat.zero_le _) (by decide +kernel)
theorem xw_274 : ∀ w ∈ xk_274.flatMap (xWd xTab 274), w ∈ tTg xTab := xWB_of (qs := [(10, 14), (10, 15), (10, 17), (10, 19), (0, 0), (10, 17), (10, 19), (0, 0)]) (by decide +kernel)
theorem xs_274 : xk_274.all (xSd xTab xnM 274) = true := by decide +kernel
theorem xc_274 : ∀ e ∈ xk_274, xInv e = true → xCat xTab 274 e.1 := fun _ _ _ => xCat_nil rfl rfl
theorem xh_274 : ∀ e ∈ xk_274, xThr e = true → xLk2 xTab 274 e := xThr_none (by decide +kernel)
theorem xd_275 : xDec (prog_14_method_57_code) xk_275 := xDecW_of (base := 0) (Nat.zero_le _) (by decide +kernel)
theorem xw_275 : ∀ w ∈ xk_275.flatMap (xWd xTab 275), w ∈ tTg xTab := xWB_of (qs := [(15, 231), (15, 233), (4, 8), (16, 21), (16, 23), (4, 13), (15, 231), (15, 233), (4, 8), (17, 21), (17, 23), (7, 0)]) (by decide +kernel)
theorem xs_275 : xk_275.all (xSd xTab xnM 275) = true := by decide +kernel
theorem xc_275 : ∀ e ∈ xk_275, xInv e = true → xCat xTab 275 e.1 := fun _ _ _ => xCat_nil rfl rfl
theorem xh_275 : ∀ e ∈ xk_275, xThr e = true → xLk2 xTab 275 e := xThr_none (by decide +kernel)
theorem xd_276 : xDec (prog_7_method_6_code) xk_276 := xDecW_of (base := 0) (Nat.zero_le _) (by decide +kernel)
theorem xw_276 : ∀ w ∈ xk_276.flatMap (xWd xTab 276), w ∈ tTg xTab := xWB_of (qs := [(8, 128), (10, 21), (10, 22), (10, 23)]) (by decide +kernel)
theorem xs_276 : xk_276.all (xSd xTab xnM 276) = true := by decide +kernel
theorem xc_276 : ∀ e ∈ xk_276, xInv e = true → xCat xTab 276 e.1 := fun _ _ _ => xCat_nil rfl rfl
theorem xh_276 : ∀ e ∈ xk_276, xThr e = true → xLk2 xTab 276 e := xThr_none (by decide +kernel)
theorem xd_277 : xDec (prog_7_method_7_code) xk_277 := xDecW_of (base := 0) (Nat.zero_le _) (by decide +kernel)
theorem xw_277 : ∀ w ∈ xk_277.flatMap (xWd xTab 277), w ∈ tTg xTab := xWB_of (qs := [(8, 128), (9, 114), (9, 115), (10, 28), (10, 29), (10, 30), (9, 115), (9, 115), (10, 68), (10, 69)]) (by decide +kernel)
theorem xs_277 : xk_277.all (xSd xTab xnM 277) = true := by decide +kernel
theorem xc_277 : ∀ e ∈ xk_277, xInv e = true → xCat xTab 277 e.1 := fun _ _ _ => xCat_nil rfl rfl
theorem xh_277 : ∀ e ∈ xk_277, xThr e = true → xLk2 xTab 277 e := xThr_none (by decide +kernel)
theorem xd_278 : xDec (prog_7_method_8_code) xk_278 := xDecW_of (base := 0) (Nat.zero_le _) (by decide +kernel)
theorem xw_278 : ∀ w ∈ xk_278.flatMap (xWd xTab 278), w ∈ tTg xTab := xWB_of (qs := [(9, 116), (8, 149), (9, 114), (12, 176), (10, 107), (10, 108), (9, 115), (10, 28), (10, 29), (10, 30), (14, 46), (14, 48), (2, 4), (14, 50), (14, 52), (2, 5)]) (by decide +kernel)
theorem xs_278 : xk_278.all (xSd xTab xnM 278) = true := by decide +kernel
theorem xc_278 : ∀ e ∈ xk_278, xInv e = true → xCat xTab 278 e.1 := fun _ _ _ => xCat_nil rfl rfl
theorem xh_278 : ∀ e ∈ xk_278, xThr e = true → xLk2 xTab 278 e := xThr_none (by decide +kernel)
theorem xd_279 : xDec (prog_11_method_12_code) xk_279 := xDecW_of (base := 0) (Nat.zero_le _) (by decide +kernel)
theorem xw_279 : ∀ w ∈ xk_279.flatMap (xWd xTab 279), w ∈ tTg xTab := xWB_of (qs := [(8, 124), (8, 154)]) (by decide +kernel)
theorem xs_279 : xk_279.all (xSd xTab xnM 279) = true := by decide +kernel
theorem xc_279 : ∀ e ∈ xk_279, xInv e = true → xCat xTab 279 e.1 := fun _ _ _ => xCat_nil rfl rfl
theorem xh_279 : ∀ e ∈ xk_279, xThr e = true → xLk2 xTab 279 e := xThr_none (by decide +kernel)
theorem xd_280 : xDec (prog_6_method_10_code) xk_280 := xDecW_of (base := 0) (Nat.zero_le _) (by decide +kernel)
theorem xw_280 : ∀ w ∈ xk_280.flatMap (xWd xTab 280), w ∈ tTg xTab := xWB_of (qs := [(9, 136), (8, 159), (14, 80), (10, 33), (8, 159), (14, 81), (14, 83), (2, 6), (9, 136), (9, 136), (8, 125), (9, 136), (9, 136), (8, 152), (9, 136), (10, 146), (10, 53), (9, 136), (14, 85), (14, 87), (2, 7)]) (by decide +kernel)
theorem xs_280 : xk_280.all (xSd xTab xnM 280) = true := by decide +kernel
theorem xc_280 : ∀ e ∈ xk_280, xInv e = true → xCat xTab 280 e.1 := fun _ _ _ => xCat_nil rfl rfl
theorem xh_280 : ∀ e ∈ xk_280, xThr e = true → xLk2 xTab 280 e := xThr_none (by decide +kernel)
theorem xd_281 : xDec (prog_6_method_7_code) xk_281 := xDecW_of (base := 0) (Nat.zero_le _) (by decide +kernel)
theorem xw_281 : ∀ w ∈ xk_281.flatMap (xWd xTab 281), w ∈ tTg xTab := xWB_of (qs := [(8, 125), (8, 152), (10, 126), (10, 127), (10, 128), (8, 152), (10, 142), (10, 143), (10, 144)]) (by decide +kernel)
theorem xs_281 : xk_281.all (xSd xTab xnM 281) = true := by decide +kernel
theorem xc_281 : ∀ e ∈ xk_281, xInv e = true → xCat xTab 281 e.1 := fun _ _ _ => xCat_nil rfl rfl
theorem xh_281 : ∀ e ∈ xk_281, xThr e = true → xLk2 xTab 281 e := xThr_none (by decide +kernel)
theorem xd_282 : xDec (prog_6_method_17_code) xk_282 := xDecW_of (base := 0) (Nat.zero_le _) (by decide +kernel)
theorem xw_282 : ∀ w ∈ xk_282.flatMap (xWd xTab 282), w ∈ tTg xTab := xWB_of (qs := [(8, 159), (10, 126), (10, 127), (10, 128), (10, 142), (10, 143), (10, 144)]) (by decide +kernel)
theorem xs_282 : xk_282.all (xSd xTab xnM 282) = true := by decide +kernel
theorem xc_282 : ∀ e ∈ xk_282, xInv e = true → xCat xTab 282 e.1 := fun _ _ _ => xCat_nil rfl rfl
theorem xh_282 : ∀ e ∈ xk_282, xThr e = true → xLk2 xTab 282 e := xThr_none (by decide +kernel)
theorem xd_283 : xDec (prog_1_method_60_code) xk_283 := xDecW_of (base := 0) (Nat.zero_le _) (by decide +kernel)
theorem xw_283 : ∀ w ∈ xk_283.flatMap (xWd xTab 283), w ∈ tTg xTab := xWB_of (qs := []) (by decide +kernel)
theorem xs_283 : xk_283.all (xSd xTab xnM 283) = true := by decide +kernel
theorem xc_283 : ∀ e ∈ xk_283, xInv e = true → xCat xTab 283 e.1 := fun _ _ _ => xCat_nil rfl rfl
theorem xh_283_5 : xLk2 xTab 283 (5, .new 128, 3, 0, 0, 1, 0) := ⟨130, by decide +kernel, by decide +kernel, by decide +kernel, by decide, rfl, rfl, by decide +kernel, xt_0⟩
theorem xh_283 : ∀ e ∈ xk_283, xThr e = true → xLk2 xTab 283 e := by
  intro e he ht
  have h : xk_283.filter xThr = [(5, .new 128, 3, 0, 0, 1, 0)] := by rfl
  have h2 := List.mem_filter.mpr ⟨he, ht⟩
  rw [h] at h2
  simp only [List.mem_cons, List.not_mem_nil, or_false] at h2
  rcases h2 with h2
  · rw [h2]; exact xh_283_5
theorem xd_284 : xDec (prog_6_method_18_code) xk_284 := xDecW_of (base := 0) (Nat.zero_le _) (by decide +kernel)
theorem xw_284 : ∀ w ∈ xk_284.flatMap (xWd xTab 284), w ∈ tTg xTab := xWB_of (qs := [(8, 152), (10, 142), (10, 143), (10, 144), (8, 152), (10, 142), (10, 143), (10, 144), (8, 162), (8, 162), (14, 108), (14, 109), (14, 111), (14, 112), (14, 111), (14, 112), (14, 111), (14, 112), (14, 111), (14, 112)]) (by decide +kernel)
theorem xs_284 : xk_284.all (xSd xTab xnM 284) = true := by decide +kernel
theorem xc_284 : ∀ e ∈ xk_284, xInv e = true → xCat xTab 284 e.1 := fun _ _ _ => xCat_nil rfl rfl
theorem xh_284 : ∀ e ∈ xk_284, xThr e = true → xLk2 xTab 284 e := xThr_none (by decide +kernel)
theorem xd_285 : xDec (prog_2_method_4_code) xk_285 := xDecW_of (base := 0) (Nat.zero_le _) (by decide +kernel)
theorem xw_285 : ∀ w ∈ xk_285.flatMap (xWd xTab 285), w ∈ tTg xTab := xWB_of (qs := [(14, 124), (14, 125), (14, 124), (14, 125), (14, 127), (14, 124), (14, 125), (14, 128), (14, 129), (14, 131)]) (by decide +kernel)
theorem xs_285 : xk_285.all (xSd xTab xnM 285) = true := by decide +kernel
theorem xc_285 : ∀ e ∈ xk_285, xInv e = true → xCat xTab 285 e.1 := fun _ _ _ => xCat_nil rfl rfl
theorem xh_285 : ∀ e ∈ xk_285, xThr e = true → xLk2 xTab 285 e := xThr_none (by decide +kernel)
theorem xd_286 : xDec (prog_35_method_103_code) xk_286 := xDecW_of (base := 0) (Nat.zero_le _) (by decide +kernel)
theorem xw_286 : ∀ w ∈ xk_286.flatMap (xWd xTab 286), w ∈ tTg xTab := xWB_of (qs := []) (by decide +kernel)
theorem xs_286 : xk_286.all (xSd xTab xnM 286) = true := by decide +kernel
theorem xc_286 : ∀ e ∈ xk_286, xInv e = true → xCat xTab 286 e.1 := fun _ _ _ => xCat_nil rfl rfl
theorem xh_286 : ∀ e ∈ xk_286, xThr e = true → xLk2 xTab 286 e := xThr_none (by decide +kernel)
theorem xd_287 : xDec (prog_10_method_5_code) xk_287 := xDecW_of (base := 0) (Nat.zero_le _) (by decide +kernel)
theorem xw_287 : ∀ w ∈ xk_287.flatMap (xWd xTab 287), w ∈ tTg xTab := xWB_of (qs := [(8, 134), (9, 57), (8, 141), (9, 58), (9, 59), (9, 60), (8, 189), (9, 62), (9, 61), (10, 39), (8, 147)]) (by decide +kernel)
theorem xs_287 : xk_287.all (xSd xTab xnM 287) = true := by decide +kernel
theorem xc_287 : ∀ e ∈ xk_287, xInv e = true → xCat xTab 287 e.1 := fun _ _ _ => xCat_nil rfl rfl
theorem xh_287 : ∀ e ∈ xk_287, xThr e = true → xLk2 xTab 287 e := xThr_none (by decide +kernel)
