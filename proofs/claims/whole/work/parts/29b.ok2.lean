/-! ===== THE TABLE IS AS IT MUST BE, 2 ===== -/
theorem xm_192 : ∀ w ∈ (List.range' 192 8).flatMap (xMdW xTab), w ∈ tTg xTab := xWB_of (qs := [(17, 36), (8, 13), (14, 41), (8, 1), (16, 24), (8, 13), (17, 44), (8, 13), (17, 24), (8, 13), (14, 60), (8, 1), (16, 59), (8, 13), (14, 68), (8, 1)]) (by decide +kernel)
theorem xm_b192 : (List.range' 192 8).all (xMdB xTab) = true := by decide +kernel
theorem xm_200 : ∀ w ∈ (List.range' 200 8).flatMap (xMdW xTab), w ∈ tTg xTab := xWB_of (qs := [(17, 56), (8, 13), (10, 93), (8, 4), (14, 75), (8, 1), (17, 68), (8, 13), (10, 105), (8, 11), (10, 121), (8, 11), (14, 95), (8, 1), (16, 32), (8, 13)]) (by decide +kernel)
theorem xm_b200 : (List.range' 200 8).all (xMdB xTab) = true := by decide +kernel
theorem xm_208 : ∀ w ∈ (List.range' 208 8).flatMap (xMdW xTab), w ∈ tTg xTab := xWB_of (qs := [(14, 103), (8, 1), (17, 84), (8, 13), (14, 120), (8, 1), (10, 109), (8, 4), (10, 31), (8, 8), (10, 114), (8, 8), (10, 165), (8, 4), (17, 110), (8, 13)]) (by decide +kernel)
theorem xm_b208 : (List.range' 208 8).all (xMdB xTab) = true := by decide +kernel
theorem xm_216 : ∀ w ∈ (List.range' 216 8).flatMap (xMdW xTab), w ∈ tTg xTab := xWB_of (qs := [(14, 138), (8, 1), (14, 145), (8, 1), (14, 152), (8, 1), (16, 56), (8, 13), (14, 160), (8, 1), (14, 168), (8, 1), (17, 138), (8, 13), (14, 183), (8, 1)]) (by decide +kernel)
theorem xm_b216 : (List.range' 216 8).all (xMdB xTab) = true := by decide +kernel
theorem xm_224 : ∀ w ∈ (List.range' 224 8).flatMap (xMdW xTab), w ∈ tTg xTab := xWB_of (qs := [(10, 189), (8, 4), (8, 110), (8, 5), (10, 222), (8, 6), (11, 199), (8, 3), (15, 70), (8, 13), (15, 78), (8, 13), (15, 82), (8, 13), (15, 145), (8, 13)]) (by decide +kernel)
theorem xm_b224 : (List.range' 224 8).all (xMdB xTab) = true := by decide +kernel
theorem xm_232 : ∀ w ∈ (List.range' 232 8).flatMap (xMdW xTab), w ∈ tTg xTab := xWB_of (qs := [(15, 117), (8, 13), (12, 51), (8, 7), (12, 103), (8, 7), (12, 132), (8, 1), (11, 156), (8, 4), (12, 152), (8, 9), (12, 171), (8, 9), (12, 175), (8, 10)]) (by decide +kernel)
theorem xm_b232 : (List.range' 232 8).all (xMdB xTab) = true := by decide +kernel
theorem xm_240 : ∀ w ∈ (List.range' 240 8).flatMap (xMdW xTab), w ∈ tTg xTab := xWB_of (qs := [(12, 183), (8, 11), (12, 191), (8, 11), (12, 223), (8, 1), (12, 227), (8, 11), (12, 231), (8, 11), (16, 36), (8, 13), (16, 79), (8, 13), (16, 83), (8, 13)]) (by decide +kernel)
theorem xm_b240 : (List.range' 240 8).all (xMdB xTab) = true := by decide +kernel
theorem xm_248 : ∀ w ∈ (List.range' 248 8).flatMap (xMdW xTab), w ∈ tTg xTab := xWB_of (qs := [(10, 145), (8, 11), (10, 129), (8, 11), (13, 26), (8, 1), (13, 34), (8, 4), (13, 45), (8, 1), (13, 54), (8, 8), (15, 238), (8, 13), (13, 65), (8, 1)]) (by decide +kernel)
theorem xm_b248 : (List.range' 248 8).all (xMdB xTab) = true := by decide +kernel
theorem xm_256 : ∀ w ∈ (List.range' 256 8).flatMap (xMdW xTab), w ∈ tTg xTab := xWB_of (qs := [(13, 69), (8, 1), (13, 74), (8, 12), (13, 92), (8, 29), (16, 135), (8, 13), (13, 122), (8, 4), (13, 141), (8, 5), (11, 165), (8, 4), (10, 117), (8, 8)]) (by decide +kernel)
theorem xm_b256 : (List.range' 256 8).all (xMdB xTab) = true := by decide +kernel
theorem xm_264 : ∀ w ∈ (List.range' 264 8).flatMap (xMdW xTab), w ∈ tTg xTab := xWB_of (qs := [(13, 49), (8, 1), (10, 27), (8, 4), (13, 204), (8, 8), (13, 218), (8, 3), (13, 222), (8, 1), (13, 226), (8, 9), (16, 224), (8, 13), (14, 4), (8, 9)]) (by decide +kernel)
theorem xm_b264 : (List.range' 264 8).all (xMdB xTab) = true := by decide +kernel
theorem xm_272 : ∀ w ∈ (List.range' 272 8).flatMap (xMdW xTab), w ∈ tTg xTab := xWB_of (qs := [(17, 4), (8, 13), (13, 230), (8, 3), (10, 13), (8, 10), (17, 20), (8, 13), (10, 81), (8, 10), (10, 85), (8, 10), (14, 45), (8, 10), (10, 97), (8, 4)]) (by decide +kernel)
theorem xm_b272 : (List.range' 272 8).all (xMdB xTab) = true := by decide +kernel
theorem xm_280 : ∀ w ∈ (List.range' 280 8).flatMap (xMdW xTab), w ∈ tTg xTab := xWB_of (qs := [(14, 79), (8, 11), (10, 125), (8, 11), (12, 187), (8, 11), (13, 30), (8, 1), (14, 107), (8, 11), (14, 123), (8, 12), (10, 34), (8, 26), (10, 38), (8, 8)]) (by decide +kernel)
theorem xm_b280 : (List.range' 280 8).all (xMdB xTab) = true := by decide +kernel
theorem xm_288 : ∀ w ∈ (List.range' 288 8).flatMap (xMdW xTab), w ∈ tTg xTab := xWB_of (qs := [(10, 16), (8, 19), (10, 45), (8, 8), (12, 195), (8, 4), (10, 57), (8, 19), (10, 54), (8, 19), (14, 172), (8, 5), (14, 176), (8, 5), (14, 187), (8, 5)]) (by decide +kernel)
theorem xm_b288 : (List.range' 288 8).all (xMdB xTab) = true := by decide +kernel
theorem xm_296 : ∀ w ∈ (List.range' 296 8).flatMap (xMdW xTab), w ∈ tTg xTab := xWB_of (qs := [(10, 196), (8, 5), (10, 226), (8, 3), (10, 233), (8, 3), (10, 237), (8, 6), (11, 191), (8, 3), (15, 74), (8, 13), (15, 87), (8, 13), (15, 95), (8, 13)]) (by decide +kernel)
theorem xm_b296 : (List.range' 296 8).all (xMdB xTab) = true := by decide +kernel
theorem xm_304 : ∀ w ∈ (List.range' 304 8).flatMap (xMdW xTab), w ∈ tTg xTab := xWB_of (qs := [(15, 104), (8, 13), (15, 99), (8, 13), (15, 149), (8, 13), (15, 170), (8, 13), (15, 186), (8, 13), (15, 191), (8, 13), (15, 200), (8, 13), (12, 57), (8, 7)]) (by decide +kernel)
theorem xm_b304 : (List.range' 304 8).all (xMdB xTab) = true := by decide +kernel
theorem xm_312 : ∀ w ∈ (List.range' 312 8).flatMap (xMdW xTab), w ∈ tTg xTab := xWB_of (qs := [(12, 107), (8, 2), (12, 156), (8, 9), (12, 159), (8, 9), (12, 163), (8, 9), (12, 179), (8, 10), (12, 235), (8, 11), (12, 239), (8, 11), (10, 133), (8, 11)]) (by decide +kernel)
theorem xm_b312 : (List.range' 312 8).all (xMdB xTab) = true := by decide +kernel
theorem xm_320 : ∀ w ∈ (List.range' 320 8).flatMap (xMdW xTab), w ∈ tTg xTab := xWB_of (qs := [(10, 150), (8, 2), (10, 137), (8, 2), (16, 1), (8, 13), (16, 4), (8, 13), (13, 78), (8, 12), (13, 87), (8, 11), (16, 139), (8, 13), (16, 148), (8, 13)]) (by decide +kernel)
theorem xm_b320 : (List.range' 320 8).all (xMdB xTab) = true := by decide +kernel
theorem xm_328 : ∀ w ∈ (List.range' 328 8).flatMap (xMdW xTab), w ∈ tTg xTab := xWB_of (qs := [(10, 24), (8, 4), (13, 207), (8, 8), (14, 8), (8, 9), (14, 13), (8, 9), (13, 233), (8, 8), (10, 20), (8, 10), (10, 70), (8, 8), (14, 49), (8, 10)]) (by decide +kernel)
theorem xm_b328 : (List.range' 328 8).all (xMdB xTab) = true := by decide +kernel
theorem xm_336 : ∀ w ∈ (List.range' 336 8).flatMap (xMdW xTab), w ∈ tTg xTab := xWB_of (qs := [(14, 53), (8, 10), (14, 84), (8, 11), (14, 88), (8, 11), (14, 110), (8, 29), (14, 113), (8, 11), (14, 126), (8, 12), (14, 130), (8, 19), (10, 48), (8, 8)]) (by decide +kernel)
theorem xm_b336 : (List.range' 336 8).all (xMdB xTab) = true := by decide +kernel
theorem xm_344 : ∀ w ∈ (List.range' 344 8).flatMap (xMdW xTab), w ∈ tTg xTab := xWB_of (qs := [(10, 51), (8, 8), (10, 60), (8, 8), (10, 64), (8, 8), (10, 67), (8, 8), (10, 229), (8, 3), (11, 2), (8, 3), (11, 54), (8, 6), (11, 148), (8, 6)]) (by decide +kernel)
theorem xm_b344 : (List.range' 344 8).all (xMdB xTab) = true := by decide +kernel
theorem xm_352 : ∀ w ∈ (List.range' 352 8).flatMap (xMdW xTab), w ∈ tTg xTab := xWB_of (qs := [(11, 72), (8, 3), (11, 161), (8, 6), (11, 170), (8, 6), (11, 176), (8, 6), (11, 183), (8, 6), (11, 195), (8, 3), (11, 58), (8, 3), (15, 108), (8, 13)]) (by decide +kernel)
theorem xm_b352 : (List.range' 352 8).all (xMdB xTab) = true := by decide +kernel
theorem xm_360 : ∀ w ∈ (List.range' 360 8).flatMap (xMdW xTab), w ∈ tTg xTab := xWB_of (qs := [(15, 154), (8, 13), (15, 159), (8, 13), (11, 62), (8, 3), (12, 67), (8, 7), (10, 141), (8, 2), (16, 7), (8, 13), (13, 82), (8, 4), (16, 143), (8, 13)]) (by decide +kernel)
theorem xm_b360 : (List.range' 360 8).all (xMdB xTab) = true := by decide +kernel
theorem xm_368 : ∀ w ∈ (List.range' 368 8).flatMap (xMdW xTab), w ∈ tTg xTab := xWB_of (qs := [(14, 18), (8, 9), (11, 78), (8, 6), (11, 66), (8, 3), (15, 112), (8, 13), (12, 71), (8, 7), (12, 78), (8, 7), (11, 82), (8, 3), (11, 87), (8, 3)]) (by decide +kernel)
theorem xm_b368 : (List.range' 368 8).all (xMdB xTab) = true := by decide +kernel
theorem xm_376 : ∀ w ∈ (List.range' 376 5).flatMap (xMdW xTab), w ∈ tTg xTab := xWB_of (qs := [(15, 121), (8, 13), (12, 85), (8, 7), (15, 127), (8, 13), (12, 88), (8, 2), (15, 131), (8, 13)]) (by decide +kernel)
theorem xm_b376 : (List.range' 376 5).all (xMdB xTab) = true := by decide +kernel
theorem xmd : ∀ a, a < xnM → xMd xTab a := by
  intro a ha
  by_cases h0 : a < 8
  · have hm : a ∈ List.range' 0 8 := List.mem_range'_1.mpr ⟨by omega, by omega⟩
    exact xMd_of (List.all_eq_true.mp xm_b0 a hm) (fun w hw => xm_0 w (List.mem_flatMap.mpr ⟨a, hm, hw⟩))
  by_cases h8 : a < 16
  · have hm : a ∈ List.range' 8 8 := List.mem_range'_1.mpr ⟨by omega, by omega⟩
    exact xMd_of (List.all_eq_true.mp xm_b8 a hm) (fun w hw => xm_8 w (List.mem_flatMap.mpr ⟨a, hm, hw⟩))
  by_cases h16 : a < 24
  · have hm : a ∈ List.range' 16 8 := List.mem_range'_1.mpr ⟨by omega, by omega⟩
    exact xMd_of (List.all_eq_true.mp xm_b16 a hm) (fun w hw => xm_16 w (List.mem_flatMap.mpr ⟨a, hm, hw⟩))
  by_cases h24 : a < 32
  · have hm : a ∈ List.range' 24 8 := List.mem_range'_1.mpr ⟨by omega, by omega⟩
    exact xMd_of (List.all_eq_true.mp xm_b24 a hm) (fun w hw => xm_24 w (List.mem_flatMap.mpr ⟨a, hm, hw⟩))
  by_cases h32 : a < 40
  · have hm : a ∈ List.range' 32 8 := List.mem_range'_1.mpr ⟨by omega, by omega⟩
    exact xMd_of (List.all_eq_true.mp xm_b32 a hm) (fun w hw => xm_32 w (List.mem_flatMap.mpr ⟨a, hm, hw⟩))
  by_cases h40 : a < 48
  · have hm : a ∈ List.range' 40 8 := List.mem_range'_1.mpr ⟨by omega, by omega⟩
    exact xMd_of (List.all_eq_true.mp xm_b40 a hm) (fun w hw => xm_40 w (List.mem_flatMap.mpr ⟨a, hm, hw⟩))
  by_cases h48 : a < 56
  · have hm : a ∈ List.range' 48 8 := List.mem_range'_1.mpr ⟨by omega, by omega⟩
    exact xMd_of (List.all_eq_true.mp xm_b48 a hm) (fun w hw => xm_48 w (List.mem_flatMap.mpr ⟨a, hm, hw⟩))
  by_cases h56 : a < 64
  · have hm : a ∈ List.range' 56 8 := List.mem_range'_1.mpr ⟨by omega, by omega⟩
    exact xMd_of (List.all_eq_true.mp xm_b56 a hm) (fun w hw => xm_56 w (List.mem_flatMap.mpr ⟨a, hm, hw⟩))
  by_cases h64 : a < 72
  · have hm : a ∈ List.range' 64 8 := List.mem_range'_1.mpr ⟨by omega, by omega⟩
    exact xMd_of (List.all_eq_true.mp xm_b64 a hm) (fun w hw => xm_64 w (List.mem_flatMap.mpr ⟨a, hm, hw⟩))
  by_cases h72 : a < 80
  · have hm : a ∈ List.range' 72 8 := List.mem_range'_1.mpr ⟨by omega, by omega⟩
    exact xMd_of (List.all_eq_true.mp xm_b72 a hm) (fun w hw => xm_72 w (List.mem_flatMap.mpr ⟨a, hm, hw⟩))
  by_cases h80 : a < 88
  · have hm : a ∈ List.range' 80 8 := List.mem_range'_1.mpr ⟨by omega, by omega⟩
    exact xMd_of (List.all_eq_true.mp xm_b80 a hm) (fun w hw => xm_80 w (List.mem_flatMap.mpr ⟨a, hm, hw⟩))
  by_cases h88 : a < 96
  · have hm : a ∈ List.range' 88 8 := List.mem_range'_1.mpr ⟨by omega, by omega⟩
    exact xMd_of (List.all_eq_true.mp xm_b88 a hm) (fun w hw => xm_88 w (List.mem_flatMap.mpr ⟨a, hm, hw⟩))
  by_cases h96 : a < 104
  · have hm : a ∈ List.range' 96 8 := List.mem_range'_1.mpr ⟨by omega, by omega⟩
    exact xMd_of (List.all_eq_true.mp xm_b96 a hm) (fun w hw => xm_96 w (List.mem_flatMap.mpr ⟨a, hm, hw⟩))
  by_cases h104 : a < 112
  · have hm : a ∈ List.range' 104 8 := List.mem_range'_1.mpr ⟨by omega, by omega⟩
    exact xMd_of (List.all_eq_true.mp xm_b104 a hm) (fun w hw => xm_104 w (List.mem_flatMap.mpr ⟨a, hm, hw⟩))
  by_cases h112 : a < 120
  · have hm : a ∈ List.range' 112 8 := List.mem_range'_1.mpr ⟨by omega, by omega⟩
    exact xMd_of (List.all_eq_true.mp xm_b112 a hm) (fun w hw => xm_112 w (List.mem_flatMap.mpr ⟨a, hm, hw⟩))
  by_cases h120 : a < 128
  · have hm : a ∈ List.range' 120 8 := List.mem_range'_1.mpr ⟨by omega, by omega⟩
    exact xMd_of (List.all_eq_true.mp xm_b120 a hm) (fun w hw => xm_120 w (List.mem_flatMap.mpr ⟨a, hm, hw⟩))
  by_cases h128 : a < 136
  · have hm : a ∈ List.range' 128 8 := List.mem_range'_1.mpr ⟨by omega, by omega⟩
    exact xMd_of (List.all_eq_true.mp xm_b128 a hm) (fun w hw => xm_128 w (List.mem_flatMap.mpr ⟨a, hm, hw⟩))
  by_cases h136 : a < 144
  · have hm : a ∈ List.range' 136 8 := List.mem_range'_1.mpr ⟨by omega, by omega⟩
    exact xMd_of (List.all_eq_true.mp xm_b136 a hm) (fun w hw => xm_136 w (List.mem_flatMap.mpr ⟨a, hm, hw⟩))
  by_cases h144 : a < 152
  · have hm : a ∈ List.range' 144 8 := List.mem_range'_1.mpr ⟨by omega, by omega⟩
    exact xMd_of (List.all_eq_true.mp xm_b144 a hm) (fun w hw => xm_144 w (List.mem_flatMap.mpr ⟨a, hm, hw⟩))
  by_cases h152 : a < 160
  · have hm : a ∈ List.range' 152 8 := List.mem_range'_1.mpr ⟨by omega, by omega⟩
    exact xMd_of (List.all_eq_true.mp xm_b152 a hm) (fun w hw => xm_152 w (List.mem_flatMap.mpr ⟨a, hm, hw⟩))
  by_cases h160 : a < 168
  · have hm : a ∈ List.range' 160 8 := List.mem_range'_1.mpr ⟨by omega, by omega⟩
    exact xMd_of (List.all_eq_true.mp xm_b160 a hm) (fun w hw => xm_160 w (List.mem_flatMap.mpr ⟨a, hm, hw⟩))
  by_cases h168 : a < 176
  · have hm : a ∈ List.range' 168 8 := List.mem_range'_1.mpr ⟨by omega, by omega⟩
    exact xMd_of (List.all_eq_true.mp xm_b168 a hm) (fun w hw => xm_168 w (List.mem_flatMap.mpr ⟨a, hm, hw⟩))
  by_cases h176 : a < 184
  · have hm : a ∈ List.range' 176 8 := List.mem_range'_1.mpr ⟨by omega, by omega⟩
    exact xMd_of (List.all_eq_true.mp xm_b176 a hm) (fun w hw => xm_176 w (List.mem_flatMap.mpr ⟨a, hm, hw⟩))
  by_cases h184 : a < 192
  · have hm : a ∈ List.range' 184 8 := List.mem_range'_1.mpr ⟨by omega, by omega⟩
    exact xMd_of (List.all_eq_true.mp xm_b184 a hm) (fun w hw => xm_184 w (List.mem_flatMap.mpr ⟨a, hm, hw⟩))
  by_cases h192 : a < 200
  · have hm : a ∈ List.range' 192 8 := List.mem_range'_1.mpr ⟨by omega, by omega⟩
    exact xMd_of (List.all_eq_true.mp xm_b192 a hm) (fun w hw => xm_192 w (List.mem_flatMap.mpr ⟨a, hm, hw⟩))
  by_cases h200 : a < 208
  · have hm : a ∈ List.range' 200 8 := List.mem_range'_1.mpr ⟨by omega, by omega⟩
    exact xMd_of (List.all_eq_true.mp xm_b200 a hm) (fun w hw => xm_200 w (List.mem_flatMap.mpr ⟨a, hm, hw⟩))
  by_cases h208 : a < 216
  · have hm : a ∈ List.range' 208 8 := List.mem_range'_1.mpr ⟨by omega, by omega⟩
    exact xMd_of (List.all_eq_true.mp xm_b208 a hm) (fun w hw => xm_208 w (List.mem_flatMap.mpr ⟨a, hm, hw⟩))
  by_cases h216 : a < 224
  · have hm : a ∈ List.range' 216 8 := List.mem_range'_1.mpr ⟨by omega, by omega⟩
    exact xMd_of (List.all_eq_true.mp xm_b216 a hm) (fun w hw => xm_216 w (List.mem_flatMap.mpr ⟨a, hm, hw⟩))
  by_cases h224 : a < 232
  · have hm : a ∈ List.range' 224 8 := List.mem_range'_1.mpr ⟨by omega, by omega⟩
    exact xMd_of (List.all_eq_true.mp xm_b224 a hm) (fun w hw => xm_224 w (List.mem_flatMap.mpr ⟨a, hm, hw⟩))
  by_cases h232 : a < 240
  · have hm : a ∈ List.range' 232 8 := List.mem_range'_1.mpr ⟨by omega, by omega⟩
    exact xMd_of (List.all_eq_true.mp xm_b232 a hm) (fun w hw => xm_232 w (List.mem_flatMap.mpr ⟨a, hm, hw⟩))
  by_cases h240 : a < 248
  · have hm : a ∈ List.range' 240 8 := List.mem_range'_1.mpr ⟨by omega, by omega⟩
    exact xMd_of (List.all_eq_true.mp xm_b240 a hm) (fun w hw => xm_240 w (List.mem_flatMap.mpr ⟨a, hm, hw⟩))
  by_cases h248 : a < 256
  · have hm : a ∈ List.range' 248 8 := List.mem_range'_1.mpr ⟨by omega, by omega⟩
    exact xMd_of (List.all_eq_true.mp xm_b248 a hm) (fun w hw => xm_248 w (List.mem_flatMap.mpr ⟨a, hm, hw⟩))
  by_cases h256 : a < 264
  · have hm : a ∈ List.range' 256 8 := List.mem_range'_1.mpr ⟨by omega, by omega⟩
    exact xMd_of (List.all_eq_true.mp xm_b256 a hm) (fun w hw => xm_256 w (List.mem_flatMap.mpr ⟨a, hm, hw⟩))
  by_cases h264 : a < 272
  · have hm : a ∈ List.range' 264 8 := List.mem_range'_1.mpr ⟨by omega, by omega⟩
    exact xMd_of (List.all_eq_true.mp xm_b264 a hm) (fun w hw => xm_264 w (List.mem_flatMap.mpr ⟨a, hm, hw⟩))
  by_cases h272 : a < 280
  · have hm : a ∈ List.range' 272 8 := List.mem_range'_1.mpr ⟨by omega, by omega⟩
    exact xMd_of (List.all_eq_true.mp xm_b272 a hm) (fun w hw => xm_272 w (List.mem_flatMap.mpr ⟨a, hm, hw⟩))
  by_cases h280 : a < 288
  · have hm : a ∈ List.range' 280 8 := List.mem_range'_1.mpr ⟨by omega, by omega⟩
    exact xMd_of (List.all_eq_true.mp xm_b280 a hm) (fun w hw => xm_280 w (List.mem_flatMap.mpr ⟨a, hm, hw⟩))
  by_cases h288 : a < 296
  · have hm : a ∈ List.range' 288 8 := List.mem_range'_1.mpr ⟨by omega, by omega⟩
    exact xMd_of (List.all_eq_true.mp xm_b288 a hm) (fun w hw => xm_288 w (List.mem_flatMap.mpr ⟨a, hm, hw⟩))
  by_cases h296 : a < 304
  · have hm : a ∈ List.range' 296 8 := List.mem_range'_1.mpr ⟨by omega, by omega⟩
    exact xMd_of (List.all_eq_true.mp xm_b296 a hm) (fun w hw => xm_296 w (List.mem_flatMap.mpr ⟨a, hm, hw⟩))
  by_cases h304 : a < 312
  · have hm : a ∈ List.range' 304 8 := List.mem_range'_1.mpr ⟨by omega, by omega⟩
    exact xMd_of (List.all_eq_true.mp xm_b304 a hm) (fun w hw => xm_304 w (List.mem_flatMap.mpr ⟨a, hm, hw⟩))
  by_cases h312 : a < 320
  · have hm : a ∈ List.range' 312 8 := List.mem_range'_1.mpr ⟨by omega, by omega⟩
    exact xMd_of (List.all_eq_true.mp xm_b312 a hm) (fun w hw => xm_312 w (List.mem_flatMap.mpr ⟨a, hm, hw⟩))
  by_cases h320 : a < 328
  · have hm : a ∈ List.range' 320 8 := List.mem_range'_1.mpr ⟨by omega, by omega⟩
    exact xMd_of (List.all_eq_true.mp xm_b320 a hm) (fun w hw => xm_320 w (List.mem_flatMap.mpr ⟨a, hm, hw⟩))
  by_cases h328 : a < 336
  · have hm : a ∈ List.range' 328 8 := List.mem_range'_1.mpr ⟨by omega, by omega⟩
    exact xMd_of (List.all_eq_true.mp xm_b328 a hm) (fun w hw => xm_328 w (List.mem_flatMap.mpr ⟨a, hm, hw⟩))
  by_cases h336 : a < 344
  · have hm : a ∈ List.range' 336 8 := List.mem_range'_1.mpr ⟨by omega, by omega⟩
    exact xMd_of (List.all_eq_true.mp xm_b336 a hm) (fun w hw => xm_336 w (List.mem_flatMap.mpr ⟨a, hm, hw⟩))
  by_cases h344 : a < 352
  · have hm : a ∈ List.range' 344 8 := List.mem_range'_1.mpr ⟨by omega, by omega⟩
    exact xMd_of (List.all_eq_true.mp xm_b344 a hm) (fun w hw => xm_344 w (List.mem_flatMap.mpr ⟨a, hm, hw⟩))
  by_cases h352 : a < 360
  · have hm : a ∈ List.range' 352 8 := List.mem_range'_1.mpr ⟨by omega, by omega⟩
    exact xMd_of (List.all_eq_true.mp xm_b352 a hm) (fun w hw => xm_352 w (List.mem_flatMap.mpr ⟨a, hm, hw⟩))
  by_cases h360 : a < 368
  · have hm : a ∈ List.range' 360 8 := List.mem_range'_1.mpr ⟨by omega, by omega⟩
    exact xMd_of (List.all_eq_true.mp xm_b360 a hm) (fun w hw => xm_360 w (List.mem_flatMap.mpr ⟨a, hm, hw⟩))
  by_cases h368 : a < 376
  · have hm : a ∈ List.range' 368 8 := List.mem_range'_1.mpr ⟨by omega, by omega⟩
    exact xMd_of (List.all_eq_true.mp xm_b368 a hm) (fun w hw => xm_368 w (List.mem_flatMap.mpr ⟨a, hm, hw⟩))
  by_cases h376 : a < 381
  · have hm : a ∈ List.range' 376 5 := List.mem_range'_1.mpr ⟨by omega, by omega⟩
    exact xMd_of (List.all_eq_true.mp xm_b376 a hm) (fun w hw => xm_376 w (List.mem_flatMap.mpr ⟨a, hm, hw⟩))
  exact absurd ha h376
