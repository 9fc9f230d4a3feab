/-! ===== THE TABLE IS AS IT MUST BE ===== -/
theorem xm_0 : ∀ w ∈ (List.range' 0 8).flatMap (xMdW xTab), w ∈ tTg xTab := xWB_of (qs := [(8, 35), (8, 1), (14, 192), (8, 13), (9, 221), (8, 1), (15, 43), (8, 13), (9, 233), (8, 1), (15, 47), (8, 13), (10, 212), (8, 0), (15, 54), (8, 13)]) (by decide +kernel)
theorem xm_b0 : (List.range' 0 8).all (xMdB xTab) = true := by decide +kernel
theorem xm_8 : ∀ w ∈ (List.range' 8 8).flatMap (xMdW xTab), w ∈ tTg xTab := xWB_of (qs := [(15, 39), (8, 13), (12, 43), (8, 0), (15, 214), (8, 13), (10, 1), (8, 1), (15, 218), (8, 13), (12, 122), (8, 0), (15, 222), (8, 13), (12, 215), (8, 0)]) (by decide +kernel)
theorem xm_b8 : (List.range' 8 8).all (xMdB xTab) = true := by decide +kernel
theorem xm_16 : ∀ w ∈ (List.range' 16 8).flatMap (xMdW xTab), w ∈ tTg xTab := xWB_of (qs := [(16, 63), (8, 13), (13, 2), (8, 0), (16, 87), (8, 13), (13, 10), (8, 0), (16, 95), (8, 13), (13, 18), (8, 0), (16, 103), (8, 13), (13, 37), (8, 0)]) (by decide +kernel)
theorem xm_b16 : (List.range' 16 8).all (xMdB xTab) = true := by decide +kernel
theorem xm_24 : ∀ w ∈ (List.range' 24 8).flatMap (xMdW xTab), w ∈ tTg xTab := xWB_of (qs := [(16, 111), (8, 13), (13, 57), (8, 0), (16, 123), (8, 13), (13, 98), (8, 0), (16, 158), (8, 13), (13, 126), (8, 0), (16, 172), (8, 13), (13, 133), (8, 0)]) (by decide +kernel)
theorem xm_b24 : (List.range' 24 8).all (xMdB xTab) = true := by decide +kernel
theorem xm_32 : ∀ w ∈ (List.range' 32 8).flatMap (xMdW xTab), w ∈ tTg xTab := xWB_of (qs := [(16, 176), (8, 13), (13, 145), (8, 0), (16, 184), (8, 13), (13, 152), (8, 0), (16, 188), (8, 13), (13, 160), (8, 0), (16, 192), (8, 13), (13, 167), (8, 0)]) (by decide +kernel)
theorem xm_b32 : (List.range' 32 8).all (xMdB xTab) = true := by decide +kernel
theorem xm_40 : ∀ w ∈ (List.range' 40 8).flatMap (xMdW xTab), w ∈ tTg xTab := xWB_of (qs := [(16, 196), (8, 13), (13, 174), (8, 0), (16, 200), (8, 13), (13, 181), (8, 0), (16, 204), (8, 13), (13, 188), (8, 0), (16, 208), (8, 13), (13, 196), (8, 0)]) (by decide +kernel)
theorem xm_b40 : (List.range' 40 8).all (xMdB xTab) = true := by decide +kernel
theorem xm_48 : ∀ w ∈ (List.range' 48 8).flatMap (xMdW xTab), w ∈ tTg xTab := xWB_of (qs := [(16, 212), (8, 13), (13, 210), (8, 0), (16, 216), (8, 13), (13, 236), (8, 0), (16, 236), (8, 13), (14, 21), (8, 0), (17, 8), (8, 13), (14, 29), (8, 0)]) (by decide +kernel)
theorem xm_b48 : (List.range' 48 8).all (xMdB xTab) = true := by decide +kernel
theorem xm_56 : ∀ w ∈ (List.range' 56 8).flatMap (xMdW xTab), w ∈ tTg xTab := xWB_of (qs := [(17, 12), (8, 13), (10, 5), (8, 1), (17, 28), (8, 13), (10, 74), (8, 1), (17, 32), (8, 13), (14, 37), (8, 0), (17, 40), (8, 13), (14, 56), (8, 0)]) (by decide +kernel)
theorem xm_b56 : (List.range' 56 8).all (xMdB xTab) = true := by decide +kernel
theorem xm_64 : ∀ w ∈ (List.range' 64 8).flatMap (xMdW xTab), w ∈ tTg xTab := xWB_of (qs := [(17, 48), (8, 13), (14, 64), (8, 0), (17, 52), (8, 13), (10, 89), (8, 1), (17, 60), (8, 13), (14, 71), (8, 0), (17, 64), (8, 13), (10, 101), (8, 1)]) (by decide +kernel)
theorem xm_b64 : (List.range' 64 8).all (xMdB xTab) = true := by decide +kernel
theorem xm_72 : ∀ w ∈ (List.range' 72 8).flatMap (xMdW xTab), w ∈ tTg xTab := xWB_of (qs := [(17, 72), (8, 13), (14, 91), (8, 0), (17, 76), (8, 13), (14, 99), (8, 0), (17, 80), (8, 13), (14, 116), (8, 0), (17, 88), (8, 13), (10, 154), (8, 1)]) (by decide +kernel)
theorem xm_b72 : (List.range' 72 8).all (xMdB xTab) = true := by decide +kernel
theorem xm_80 : ∀ w ∈ (List.range' 80 8).flatMap (xMdW xTab), w ∈ tTg xTab := xWB_of (qs := [(17, 94), (8, 13), (10, 161), (8, 1), (17, 98), (8, 13), (10, 169), (8, 1), (17, 102), (8, 13), (10, 173), (8, 1), (17, 106), (8, 13), (10, 177), (8, 1)]) (by decide +kernel)
theorem xm_b80 : (List.range' 80 8).all (xMdB xTab) = true := by decide +kernel
theorem xm_88 : ∀ w ∈ (List.range' 88 8).flatMap (xMdW xTab), w ∈ tTg xTab := xWB_of (qs := [(17, 114), (8, 13), (14, 134), (8, 0), (17, 118), (8, 13), (14, 141), (8, 0), (17, 122), (8, 13), (14, 148), (8, 0), (17, 126), (8, 13), (14, 156), (8, 0)]) (by decide +kernel)
theorem xm_b88 : (List.range' 88 8).all (xMdB xTab) = true := by decide +kernel
theorem xm_96 : ∀ w ∈ (List.range' 96 8).flatMap (xMdW xTab), w ∈ tTg xTab := xWB_of (qs := [(17, 130), (8, 13), (14, 164), (8, 0), (17, 134), (8, 13), (14, 179), (8, 0), (17, 142), (8, 13), (10, 181), (8, 1), (17, 146), (8, 13), (10, 185), (8, 1)]) (by decide +kernel)
theorem xm_b96 : (List.range' 96 8).all (xMdB xTab) = true := by decide +kernel
theorem xm_104 : ∀ w ∈ (List.range' 104 8).flatMap (xMdW xTab), w ∈ tTg xTab := xWB_of (qs := [(17, 150), (8, 13), (10, 201), (8, 1), (17, 154), (8, 13), (10, 205), (8, 1), (17, 158), (8, 13), (10, 209), (8, 1), (17, 162), (8, 13), (8, 43), (8, 2)]) (by decide +kernel)
theorem xm_b104 : (List.range' 104 8).all (xMdB xTab) = true := by decide +kernel
theorem xm_112 : ∀ w ∈ (List.range' 112 8).flatMap (xMdW xTab), w ∈ tTg xTab := xWB_of (qs := [(8, 67), (8, 3), (8, 104), (8, 4), (9, 17), (8, 6), (9, 27), (8, 7), (9, 55), (8, 8), (9, 86), (8, 9), (9, 111), (8, 10), (9, 128), (8, 11)]) (by decide +kernel)
theorem xm_b112 : (List.range' 112 8).all (xMdB xTab) = true := by decide +kernel
theorem xm_120 : ∀ w ∈ (List.range' 120 8).flatMap (xMdW xTab), w ∈ tTg xTab := xWB_of (qs := [(9, 160), (8, 12), (9, 225), (8, 3), (9, 229), (8, 3), (9, 237), (8, 3), (15, 50), (8, 13), (10, 218), (8, 1), (15, 58), (8, 13), (15, 62), (8, 13)]) (by decide +kernel)
theorem xm_b120 : (List.range' 120 8).all (xMdB xTab) = true := by decide +kernel
theorem xm_128 : ∀ w ∈ (List.range' 128 8).flatMap (xMdW xTab), w ∈ tTg xTab := xWB_of (qs := [(15, 66), (8, 13), (15, 210), (8, 13), (12, 47), (8, 1), (12, 128), (8, 1), (15, 226), (8, 13), (15, 195), (8, 13), (15, 177), (8, 13), (15, 230), (8, 13)]) (by decide +kernel)
theorem xm_b128 : (List.range' 128 8).all (xMdB xTab) = true := by decide +kernel
theorem xm_136 : ∀ w ∈ (List.range' 136 8).flatMap (xMdW xTab), w ∈ tTg xTab := xWB_of (qs := [(16, 11), (8, 13), (16, 15), (8, 13), (16, 19), (8, 13), (16, 28), (8, 13), (16, 48), (8, 13), (12, 219), (8, 1), (16, 67), (8, 13), (15, 181), (8, 13)]) (by decide +kernel)
theorem xm_b136 : (List.range' 136 8).all (xMdB xTab) = true := by decide +kernel
theorem xm_144 : ∀ w ∈ (List.range' 144 8).flatMap (xMdW xTab), w ∈ tTg xTab := xWB_of (qs := [(16, 71), (8, 13), (16, 75), (8, 13), (13, 6), (8, 1), (16, 91), (8, 13), (13, 14), (8, 1), (16, 99), (8, 13), (13, 22), (8, 1), (16, 107), (8, 13)]) (by decide +kernel)
theorem xm_b144 : (List.range' 144 8).all (xMdB xTab) = true := by decide +kernel
theorem xm_152 : ∀ w ∈ (List.range' 152 8).flatMap (xMdW xTab), w ∈ tTg xTab := xWB_of (qs := [(16, 44), (8, 13), (13, 41), (8, 1), (16, 115), (8, 13), (15, 234), (8, 13), (13, 61), (8, 1), (16, 127), (8, 13), (16, 131), (8, 13), (16, 52), (8, 13)]) (by decide +kernel)
theorem xm_b152 : (List.range' 152 8).all (xMdB xTab) = true := by decide +kernel
theorem xm_160 : ∀ w ∈ (List.range' 160 8).flatMap (xMdW xTab), w ∈ tTg xTab := xWB_of (qs := [(16, 154), (8, 13), (13, 103), (8, 1), (16, 161), (8, 13), (16, 164), (8, 13), (16, 119), (8, 13), (16, 168), (8, 13), (13, 130), (8, 1), (13, 137), (8, 1)]) (by decide +kernel)
theorem xm_b160 : (List.range' 160 8).all (xMdB xTab) = true := by decide +kernel
theorem xm_168 : ∀ w ∈ (List.range' 168 8).flatMap (xMdW xTab), w ∈ tTg xTab := xWB_of (qs := [(16, 180), (8, 13), (16, 151), (8, 13), (13, 149), (8, 1), (13, 156), (8, 1), (15, 166), (8, 13), (13, 164), (8, 1), (13, 171), (8, 1), (13, 178), (8, 1)]) (by decide +kernel)
theorem xm_b168 : (List.range' 168 8).all (xMdB xTab) = true := by decide +kernel
theorem xm_176 : ∀ w ∈ (List.range' 176 8).flatMap (xMdW xTab), w ∈ tTg xTab := xWB_of (qs := [(13, 185), (8, 1), (13, 192), (8, 1), (16, 40), (8, 13), (13, 200), (8, 1), (13, 214), (8, 1), (16, 220), (8, 13), (16, 228), (8, 13), (14, 0), (8, 1)]) (by decide +kernel)
theorem xm_b176 : (List.range' 176 8).all (xMdB xTab) = true := by decide +kernel
theorem xm_184 : ∀ w ∈ (List.range' 184 8).flatMap (xMdW xTab), w ∈ tTg xTab := xWB_of (qs := [(17, 0), (8, 13), (15, 162), (8, 13), (14, 25), (8, 1), (16, 232), (8, 13), (14, 33), (8, 1), (17, 16), (8, 13), (10, 9), (8, 10), (10, 78), (8, 10)]) (by decide +kernel)
theorem xm_b184 : (List.range' 184 8).all (xMdB xTab) = true := by decide +kernel
