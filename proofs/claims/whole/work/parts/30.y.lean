/-! ===== THE PLAIN MACHINE OVER THE ROOM AS IT STANDS BEHIND THE CONSTRUCTORS ===== -/
/-- what changes beside ints: longs, the law of each state, kinds from 421 on (and of the script), next, cells, slots -/
abbrev yD : Type := xF × (Nat → Nat) × (Nat → Nat × Nat) × (Nat × Nat × Nat)
def yK0 (a : Nat) : Nat × Nat := (match Nat.blt a 148 with | true => (match Nat.blt a 64 with | true => (match Nat.blt a 29 with | true => (match Nat.blt a 13 with | true => (match Nat.blt a 5 with | true => (match Nat.blt a 2 with | true => (match Nat.blt a 1 with | true => (0, 0) | false => (21, 0)) | false => (match Nat.blt a 3 with | true => (21, 5) | false => (match Nat.blt a 4 with | true => (26, 4) | false => (26, 2)))) | false => (match Nat.blt a 9 with | true => (match Nat.blt a 7 with | true => (26, 5) | false => (match Nat.blt a 8 with | true => (26, 4) | false => (26, 6))) | false => (match Nat.blt a 11 with | true => (26, 5) | false => (match Nat.blt a 12 with | true => (26, 2) | false => (26, 4))))) | false => (match Nat.blt a 22 with | true => (match Nat.blt a 19 with | true => (match Nat.blt a 14 with | true => (26, 2) | false => (match Nat.blt a 18 with | true => (26, 4) | false => (26, 3))) | false => (match Nat.blt a 20 with | true => (26, 7) | false => (match Nat.blt a 21 with | true => (26, 5) | false => (26, 3)))) | false => (match Nat.blt a 26 with | true => (match Nat.blt a 23 with | true => (26, 6) | false => (match Nat.blt a 25 with | true => (26, 4) | false => (26, 2))) | false => (match Nat.blt a 27 with | true => (26, 3) | false => (match Nat.blt a 28 with | true => (26, 5) | false => (26, 4)))))) | false => (match Nat.blt a 45 with | true => (match Nat.blt a 38 with | true => (match Nat.blt a 34 with | true => (match Nat.blt a 30 with | true => (26, 6) | false => (26, 4)) | false => (match Nat.blt a 35 with | true => (26, 6) | false => (match Nat.blt a 36 with | true => (26, 7) | false => (26, 3)))) | false => (match Nat.blt a 42 with | true => (match Nat.blt a 39 with | true => (26, 2) | false => (match Nat.blt a 41 with | true => (26, 4) | false => (26, 6))) | false => (match Nat.blt a 43 with | true => (26, 2) | false => (match Nat.blt a 44 with | true => (26, 3) | false => (26, 5))))) | false => (match Nat.blt a 55 with | true => (match Nat.blt a 51 with | true => (match Nat.blt a 46 with | true => (26, 4) | false => (match Nat.blt a 47 with | true => (26, 6) | false => (26, 4))) | false => (match Nat.blt a 52 with | true => (26, 6) | false => (match Nat.blt a 53 with | true => (26, 7) | false => (26, 3)))) | false => (match Nat.blt a 61 with | true => (match Nat.blt a 57 with | true => (26, 2) | false => (match Nat.blt a 60 with | true => (26, 5) | false => (26, 2))) | false => (match Nat.blt a 62 with | true => (26, 4) | false => (match Nat.blt a 63 with | true => (26, 2) | false => (26, 3))))))) | false => (match Nat.blt a 106 with | true => (match Nat.blt a 84 with | true => (match Nat.blt a 72 with | true => (match Nat.blt a 69 with | true => (match Nat.blt a 68 with | true => (26, 4) | false => (26, 7)) | false => (match Nat.blt a 70 with | true => (26, 5) | false => (match Nat.blt a 71 with | true => (12, 0) | false => (3, 0)))) | false => (match Nat.blt a 78 with | true => (match Nat.blt a 76 with | true => (20, 0) | false => (match Nat.blt a 77 with | true => (11, 0) | false => (20, 400))) | false => (match Nat.blt a 81 with | true => (20, 401) | false => (match Nat.blt a 82 with | true => (10, 0) | false => (20, 5))))) | false => (match Nat.blt a 95 with | true => (match Nat.blt a 91 with | true => (match Nat.blt a 85 with | true => (20, 20) | false => (match Nat.blt a 90 with | true => (20, 5) | false => (7, 0))) | false => (match Nat.blt a 92 with | true => (20, 240) | false => (match Nat.blt a 93 with | true => (10, 0) | false => (20, 5)))) | false => (match Nat.blt a 102 with | true => (match Nat.blt a 96 with | true => (20, 20) | false => (match Nat.blt a 101 with | true => (20, 5) | false => (7, 0))) | false => (match Nat.blt a 103 with | true => (20, 240) | false => (match Nat.blt a 104 with | true => (10, 0) | false => (20, 5)))))) | false => (match Nat.blt a 126 with | true => (match Nat.blt a 115 with | true => (match Nat.blt a 112 with | true => (match Nat.blt a 107 with | true => (20, 20) | false => (20, 5)) | false => (match Nat.blt a 113 with | true => (7, 0) | false => (match Nat.blt a 114 with | true => (20, 240) | false => (24, 12)))) | false => (match Nat.blt a 119 with | true => (match Nat.blt a 116 with | true => (10, 0) | false => (match Nat.blt a 118 with | true => (20, 5) | false => (20, 20))) | false => (match Nat.blt a 124 with | true => (20, 5) | false => (match Nat.blt a 125 with | true => (7, 0) | false => (20, 240))))) | false => (match Nat.blt a 137 with | true => (match Nat.blt a 130 with | true => (match Nat.blt a 127 with | true => (10, 0) | false => (match Nat.blt a 129 with | true => (20, 5) | false => (20, 20))) | false => (match Nat.blt a 135 with | true => (20, 5) | false => (match Nat.blt a 136 with | true => (7, 0) | false => (20, 240)))) | false => (match Nat.blt a 141 with | true => (match Nat.blt a 138 with | true => (10, 0) | false => (match Nat.blt a 140 with | true => (20, 5) | false => (20, 20))) | false => (match Nat.blt a 146 with | true => (20, 5) | false => (match Nat.blt a 147 with | true => (7, 0) | false => (20, 240)))))))) | false => (match Nat.blt a 234 with | true => (match Nat.blt a 191 with | true => (match Nat.blt a 169 with | true => (match Nat.blt a 158 with | true => (match Nat.blt a 151 with | true => (match Nat.blt a 149 with | true => (10, 0) | false => (20, 5)) | false => (match Nat.blt a 152 with | true => (20, 20) | false => (match Nat.blt a 157 with | true => (20, 5) | false => (7, 0)))) | false => (match Nat.blt a 162 with | true => (match Nat.blt a 159 with | true => (20, 240) | false => (match Nat.blt a 160 with | true => (10, 0) | false => (20, 5))) | false => (match Nat.blt a 163 with | true => (20, 20) | false => (match Nat.blt a 168 with | true => (20, 5) | false => (7, 0))))) | false => (match Nat.blt a 180 with | true => (match Nat.blt a 173 with | true => (match Nat.blt a 170 with | true => (20, 240) | false => (match Nat.blt a 171 with | true => (10, 0) | false => (20, 5))) | false => (match Nat.blt a 174 with | true => (20, 20) | false => (match Nat.blt a 179 with | true => (20, 5) | false => (7, 0)))) | false => (match Nat.blt a 184 with | true => (match Nat.blt a 181 with | true => (20, 240) | false => (match Nat.blt a 182 with | true => (10, 0) | false => (20, 5))) | false => (match Nat.blt a 185 with | true => (20, 20) | false => (match Nat.blt a 190 with | true => (20, 5) | false => (7, 0)))))) | false => (match Nat.blt a 212 with | true => (match Nat.blt a 201 with | true => (match Nat.blt a 193 with | true => (match Nat.blt a 192 with | true => (20, 240) | false => (10, 0)) | false => (match Nat.blt a 195 with | true => (20, 5) | false => (match Nat.blt a 196 with | true => (20, 20) | false => (20, 5)))) | false => (match Nat.blt a 204 with | true => (match Nat.blt a 202 with | true => (7, 0) | false => (match Nat.blt a 203 with | true => (20, 240) | false => (10, 0))) | false => (match Nat.blt a 206 with | true => (20, 5) | false => (match Nat.blt a 207 with | true => (20, 20) | false => (20, 5))))) | false => (match Nat.blt a 223 with | true => (match Nat.blt a 215 with | true => (match Nat.blt a 213 with | true => (7, 0) | false => (match Nat.blt a 214 with | true => (20, 240) | false => (10, 0))) | false => (match Nat.blt a 217 with | true => (20, 5) | false => (match Nat.blt a 218 with | true => (20, 20) | false => (20, 5)))) | false => (match Nat.blt a 226 with | true => (match Nat.blt a 224 with | true => (7, 0) | false => (match Nat.blt a 225 with | true => (20, 240) | false => (10, 0))) | false => (match Nat.blt a 228 with | true => (20, 5) | false => (match Nat.blt a 229 with | true => (20, 20) | false => (20, 5))))))) | false => (match Nat.blt a 384 with | true => (match Nat.blt a 252 with | true => (match Nat.blt a 240 with | true => (match Nat.blt a 236 with | true => (match Nat.blt a 235 with | true => (7, 0) | false => (20, 240)) | false => (match Nat.blt a 237 with | true => (10, 0) | false => (match Nat.blt a 239 with | true => (20, 5) | false => (20, 20)))) | false => (match Nat.blt a 247 with | true => (match Nat.blt a 245 with | true => (20, 5) | false => (match Nat.blt a 246 with | true => (7, 0) | false => (20, 240))) | false => (match Nat.blt a 248 with | true => (2, 0) | false => (match Nat.blt a 249 with | true => (4, 0) | false => (20, 12))))) | false => (match Nat.blt a 258 with | true => (match Nat.blt a 255 with | true => (match Nat.blt a 253 with | true => (20, 800) | false => (match Nat.blt a 254 with | true => (20, 48) | false => (9, 0))) | false => (match Nat.blt a 256 with | true => (20, 4) | false => (match Nat.blt a 257 with | true => (8, 0) | false => (25, 121)))) | false => (match Nat.blt a 381 with | true => (match Nat.blt a 379 with | true => (20, 48) | false => (match Nat.blt a 380 with | true => (20, 121) | false => (23, 121))) | false => (match Nat.blt a 382 with | true => (20, 122) | false => (match Nat.blt a 383 with | true => (6, 0) | false => (25, 5)))))) | false => (match Nat.blt a 406 with | true => (match Nat.blt a 394 with | true => (match Nat.blt a 390 with | true => (match Nat.blt a 389 with | true => (20, 48) | false => (20, 4)) | false => (match Nat.blt a 391 with | true => (5, 0) | false => (match Nat.blt a 392 with | true => (20, 48) | false => (20, 5)))) | false => (match Nat.blt a 402 with | true => (match Nat.blt a 395 with | true => (20, 9) | false => (match Nat.blt a 396 with | true => (25, 6) | false => (20, 32))) | false => (match Nat.blt a 404 with | true => (20, 5) | false => (match Nat.blt a 405 with | true => (1, 0) | false => (13, 0))))) | false => (match Nat.blt a 415 with | true => (match Nat.blt a 410 with | true => (match Nat.blt a 408 with | true => (20, 731) | false => (match Nat.blt a 409 with | true => (20, 331) | false => (20, 3972))) | false => (match Nat.blt a 411 with | true => (20, 400) | false => (match Nat.blt a 412 with | true => (20, 8) | false => (20, 64)))) | false => (match Nat.blt a 418 with | true => (match Nat.blt a 416 with | true => (23, 256) | false => (match Nat.blt a 417 with | true => (20, 256) | false => (20, 16384))) | false => (match Nat.blt a 419 with | true => (20, 192) | false => (match Nat.blt a 420 with | true => (20, 5) | false => (22, 1)))))))))
def yR0 (a j : Nat) : Nat := (match Nat.blt a 180 with | true => (match Nat.blt a 124 with | true => (match Nat.blt a 92 with | true => (match Nat.blt a 77 with | true => (match Nat.blt a 71 with | true => (match Nat.blt a 70 with | true => 0 | false => ([76, 0, 81, 92, 103, 0, 114, 0, 0, 247, 248, 253, 254, 256, 382, 390, 404] : List Nat).getD j 0) | false => (match Nat.blt a 72 with | true => ([0, 72, 73, 74, 75] : List Nat).getD j 0 | false => (match Nat.blt a 76 with | true => 0 | false => ([77, 0, 78, 79, 80] : List Nat).getD j 0))) | false => (match Nat.blt a 82 with | true => (match Nat.blt a 81 with | true => 0 | false => ([0, 82, 83, 84, 85, 86, 0, 87, 88, 89, 0, 0, 0, 0, 0, 0, 0, 0, 0, 0, 90] : List Nat).getD j 0) | false => (match Nat.blt a 90 with | true => 0 | false => (match Nat.blt a 91 with | true => ([0, 0, 91] : List Nat).getD j 0 | false => 0)))) | false => (match Nat.blt a 104 with | true => (match Nat.blt a 101 with | true => (match Nat.blt a 93 with | true => ([0, 93, 94, 95, 96, 97, 0, 98, 99, 100, 0, 0, 0, 0, 0, 0, 0, 0, 0, 0, 101] : List Nat).getD j 0 | false => 0) | false => (match Nat.blt a 102 with | true => ([0, 0, 102] : List Nat).getD j 0 | false => (match Nat.blt a 103 with | true => 0 | false => ([0, 104, 105, 106, 107, 108, 0, 109, 110, 111, 0, 0, 0, 0, 0, 0, 0, 0, 0, 0, 112] : List Nat).getD j 0))) | false => (match Nat.blt a 114 with | true => (match Nat.blt a 112 with | true => 0 | false => (match Nat.blt a 113 with | true => ([0, 0, 113] : List Nat).getD j 0 | false => 0)) | false => (match Nat.blt a 115 with | true => (match Nat.blt j 12 with | true => 115 + 11 * j | false => 0) | false => (match Nat.blt a 116 with | true => ([0, 116, 117, 118, 119, 120, 0, 121, 122, 123, 0, 0, 0, 0, 0, 0, 0, 0, 0, 0, 124] : List Nat).getD j 0 | false => 0))))) | false => (match Nat.blt a 148 with | true => (match Nat.blt a 136 with | true => (match Nat.blt a 126 with | true => (match Nat.blt a 125 with | true => ([0, 0, 125] : List Nat).getD j 0 | false => 0) | false => (match Nat.blt a 127 with | true => ([0, 127, 128, 129, 130, 131, 0, 132, 133, 134, 0, 0, 0, 0, 0, 0, 0, 0, 0, 0, 135] : List Nat).getD j 0 | false => (match Nat.blt a 135 with | true => 0 | false => ([0, 0, 136] : List Nat).getD j 0))) | false => (match Nat.blt a 138 with | true => (match Nat.blt a 137 with | true => 0 | false => ([0, 138, 139, 140, 141, 142, 0, 143, 144, 145, 0, 0, 0, 0, 0, 0, 0, 0, 0, 0, 146] : List Nat).getD j 0) | false => (match Nat.blt a 146 with | true => 0 | false => (match Nat.blt a 147 with | true => ([0, 0, 147] : List Nat).getD j 0 | false => 0)))) | false => (match Nat.blt a 160 with | true => (match Nat.blt a 157 with | true => (match Nat.blt a 149 with | true => ([0, 149, 150, 151, 152, 153, 0, 154, 155, 156, 0, 0, 0, 0, 0, 0, 0, 0, 0, 0, 157] : List Nat).getD j 0 | false => 0) | false => (match Nat.blt a 158 with | true => ([0, 0, 158] : List Nat).getD j 0 | false => (match Nat.blt a 159 with | true => 0 | false => ([0, 160, 161, 162, 163, 164, 0, 165, 166, 167, 0, 0, 0, 0, 0, 0, 0, 0, 0, 0, 168] : List Nat).getD j 0))) | false => (match Nat.blt a 170 with | true => (match Nat.blt a 168 with | true => 0 | false => (match Nat.blt a 169 with | true => ([0, 0, 169] : List Nat).getD j 0 | false => 0)) | false => (match Nat.blt a 171 with | true => ([0, 171, 172, 173, 174, 175, 0, 176, 177, 178, 0, 0, 0, 0, 0, 0, 0, 0, 0, 0, 179] : List Nat).getD j 0 | false => (match Nat.blt a 179 with | true => 0 | false => ([0, 0, 180] : List Nat).getD j 0)))))) | false => (match Nat.blt a 236 with | true => (match Nat.blt a 204 with | true => (match Nat.blt a 192 with | true => (match Nat.blt a 182 with | true => (match Nat.blt a 181 with | true => 0 | false => ([0, 182, 183, 184, 185, 186, 0, 187, 188, 189, 0, 0, 0, 0, 0, 0, 0, 0, 0, 0, 190] : List Nat).getD j 0) | false => (match Nat.blt a 190 with | true => 0 | false => (match Nat.blt a 191 with | true => ([0, 0, 191] : List Nat).getD j 0 | false => 0))) | false => (match Nat.blt a 201 with | true => (match Nat.blt a 193 with | true => ([0, 193, 194, 195, 196, 197, 0, 198, 199, 200, 0, 0, 0, 0, 0, 0, 0, 0, 0, 0, 201] : List Nat).getD j 0 | false => 0) | false => (match Nat.blt a 202 with | true => ([0, 0, 202] : List Nat).getD j 0 | false => (match Nat.blt a 203 with | true => 0 | false => ([0, 204, 205, 206, 207, 208, 0, 209, 210, 211, 0, 0, 0, 0, 0, 0, 0, 0, 0, 0, 212] : List Nat).getD j 0)))) | false => (match Nat.blt a 223 with | true => (match Nat.blt a 213 with | true => (match Nat.blt a 212 with | true => 0 | false => ([0, 0, 213] : List Nat).getD j 0) | false => (match Nat.blt a 214 with | true => 0 | false => (match Nat.blt a 215 with | true => ([0, 215, 216, 217, 218, 219, 0, 220, 221, 222, 0, 0, 0, 0, 0, 0, 0, 0, 0, 0, 223] : List Nat).getD j 0 | false => 0))) | false => (match Nat.blt a 226 with | true => (match Nat.blt a 224 with | true => ([0, 0, 224] : List Nat).getD j 0 | false => (match Nat.blt a 225 with | true => 0 | false => ([0, 226, 227, 228, 229, 230, 0, 231, 232, 233, 0, 0, 0, 0, 0, 0, 0, 0, 0, 0, 234] : List Nat).getD j 0)) | false => (match Nat.blt a 234 with | true => 0 | false => (match Nat.blt a 235 with | true => ([0, 0, 235] : List Nat).getD j 0 | false => 0))))) | false => (match Nat.blt a 258 with | true => (match Nat.blt a 248 with | true => (match Nat.blt a 245 with | true => (match Nat.blt a 237 with | true => ([0, 237, 238, 239, 240, 241, 0, 242, 243, 244, 0, 0, 0, 0, 0, 0, 0, 0, 0, 0, 245] : List Nat).getD j 0 | false => 0) | false => (match Nat.blt a 246 with | true => ([0, 0, 246] : List Nat).getD j 0 | false => (match Nat.blt a 247 with | true => 0 | false => ([76] : List Nat).getD j 0))) | false => (match Nat.blt a 255 with | true => (match Nat.blt a 249 with | true => ([76, 249, 250, 251, 252] : List Nat).getD j 0 | false => (match Nat.blt a 254 with | true => 0 | false => ([0, 0, 0, 0, 255] : List Nat).getD j 0)) | false => (match Nat.blt a 256 with | true => 0 | false => (match Nat.blt a 257 with | true => ([254, 257, 379, 380, 381] : List Nat).getD j 0 | false => (match Nat.blt j 121 with | true => 258 + j | false => 0))))) | false => (match Nat.blt a 391 with | true => (match Nat.blt a 383 with | true => (match Nat.blt a 382 with | true => 0 | false => ([254, 383, 389] : List Nat).getD j 0) | false => (match Nat.blt a 384 with | true => (match Nat.blt j 5 with | true => 384 + j | false => 0) | false => (match Nat.blt a 390 with | true => 0 | false => ([254, 391, 392, 393, 394, 395, 402, 403] : List Nat).getD j 0))) | false => (match Nat.blt a 404 with | true => (match Nat.blt a 395 with | true => 0 | false => (match Nat.blt a 396 with | true => (match Nat.blt j 6 with | true => 396 + j | false => 0) | false => 0)) | false => (match Nat.blt a 405 with | true => ([390] : List Nat).getD j 0 | false => (match Nat.blt a 406 with | true => ([0, 406, 407, 0, 408, 409, 0, 410, 0, 0, 0, 0, 0, 0, 411, 0, 0, 0, 0, 412, 413, 414, 415, 416, 417, 418, 419] : List Nat).getD j 0 | false => 0)))))))
def yK (kd : Nat → Nat × Nat) (a : Nat) : Nat × Nat := match Nat.blt a 421 with
  | true => (match Nat.beq a 1 with | true => kd 1 | false => yK0 a)
  | false => kd a
def yst (a : Nat) : Bool := match Nat.blt a 421 with
  | true => Nat.beq (yK0 a).1 10
  | false => false
def yR (lw : Nat → Nat) (kd : Nat → Nat × Nat) (a j : Nat) : Nat := match Nat.beq j 11, yst a with
  | true, true => lw a
  | _, _ => match Nat.blt a 421 with
    | true => yR0 a j
    | false => match Nat.beq (kd a).1 3, Nat.ble 1 j, Nat.ble j 4 with
      | true, true, true => a + j
      | _, _, _ => 0
def mk (V : xF) (D : yD) : xM := (V, D.1, yR D.2.1 D.2.2.1, yK D.2.2.1, D.2.2.2)
/-- ends and goes on over such rooms alone -/
def yQ (Q : xRes → xF → yD → Prop) : xRes → xM → Prop := fun r M => ∃ V D, M = mk V D ∧ Q r V D
def RY (d y pc : Nat) (ls st : List xV) (V : xF) (D : yD) (Q : xRes → xF → yD → Prop) : Prop := Runs xPP d y pc ls st (mk V D) (yQ Q)
theorem RY.mono {d y pc : Nat} {ls st : List xV} {V : xF} {D : yD} {Q Q' : xRes → xF → yD → Prop} (h : RY d y pc ls st V D Q) (hq : ∀ r V D, Q r V D → Q' r V D) : RY d y pc ls st V D Q' :=
  Runs.mono h fun r M ⟨V1, D1, e, h1⟩ => ⟨V1, D1, e, hq r V1 D1 h1⟩
def yback (d y pc : Nat) (ls rest : List xV) (Q : xRes → xF → yD → Prop) : xRes → xF → yD → Prop := fun r V1 D1 => match r with
  | .inl none => RY d y pc ls rest V1 D1 Q
  | .inl (some v) => RY d y pc ls (v :: rest) V1 D1 Q
  | .inr E => match xcatch (xPP.2.2.2 y) E with
    | none => xPP.2.2.2 y = [] ∧ Q (.inr E) V1 D1
    | some pc' => RY d y pc' ls [vr 0] V1 D1 Q
def xAnd : List Prop → Prop → Prop
  | [], A => A
  | p :: r, A => p ∧ xAnd r A
theorem xAnd_iff {g : List Prop} {A : Prop} : xAnd g A ↔ xall g ∧ A := by
  induction g with
  | nil => simp [xAnd, xall]
  | cons p g ih => rw [xAnd, xall_cons, ih, and_assoc]
def xbr (q : ClassFile.Cond) (x y : Int) (A B : Prop) : Prop := match q with
  | .eq => (x = y → A) ∧ (x ≠ y → B)
  | .ne => (x ≠ y → A) ∧ (x = y → B)
  | .lt => (x < y → A) ∧ (y ≤ x → B)
  | .ge => (y ≤ x → A) ∧ (x < y → B)
  | .gt => (y < x → A) ∧ (x ≤ y → B)
  | .le => (x ≤ y → A) ∧ (y < x → B)
def xsp (x : Int) (F : Nat → Prop) : Int → List Nat → Prop
  | _, [] => True
  | k, t :: r => (x = k → F t) ∧ xsp x F (k + 1) r
def xel : List Nat → Nat → Bool
  | [], _ => false
  | q :: r, y => match Nat.beq q y with
    | true => true
    | _ => xel r y
/-- a method that only reads and answers: what must hold, and the answer -/
abbrev ySm : Type := List xV → xF → yD → Option (List Prop × xV)
def ysl : List (Nat × ySm) → Nat → Option ySm
  | [], _ => none
  | q :: r, y => match Nat.beq q.1 y with
    | true => some q.2
    | _ => ysl r y
/-- a call: 0 none, 1 static, 2 on an object -/
def xcl_ (i : Instr) (b : Nat) : Nat := match i, b with
  | .invokestatic _, 0 => 1
  | .invokespecial _, 0 => 2
  | .invokevirtual _, 0 => 2
  | _, _ => 0
def yz (y : Int) : Bool := !(decide (y = 0))
def yin (i : Int) (n : Nat) : Bool := decide (0 ≤ i) && decide (i < (n : Int))
def y01 (x : Int) : Bool := decide (x = 0) || decide (x = 1)
abbrev yC : Type := (Bool × List Prop) × (Bool × List Prop)
def yno : yC := ((true, []), (true, []))
def ybad : yC := ((false, [False]), (true, []))
/-- what must hold for an instruction: of kinds, of numbers; each as a finding and as words -/
def ychk (e : xI) (ls st : List xV) (D : yD) : yC := match e with
  | (_, ins, _, a, b, c, _) => match ins, st with
    | .aload i, _ => (match ls[i]? with | some (.inr (.inr r)) => ((!Nat.beq r 0, [r ≠ 0]), (true, [])) | _ => ybad)
    | .aload_n i, _ => (match ls[i.val]? with | some (.inr (.inr r)) => ((!Nat.beq r 0, [r ≠ 0]), (true, [])) | _ => ybad)
    | .istore i, _ => ((Nat.blt i ls.length, [i < ls.length]), (true, []))
    | .istore_n i, _ => ((Nat.blt i ls.length, [i < ls.length]), (true, []))
    | .astore i, _ => ((Nat.blt i ls.length, [i < ls.length]), (true, []))
    | .astore_n i, _ => ((Nat.blt i ls.length, [i < ls.length]), (true, []))
    | .lstore i, _ => ((Nat.blt (i + 1) ls.length, [i + 1 < ls.length]), (true, []))
    | .lstore_n i, _ => ((Nat.blt (i + 1) ls.length, [i + 1 < ls.length]), (true, []))
    | .idiv, .inl y :: _ => ((true, []), (yz y, [y ≠ 0]))
    | .irem, .inl y :: _ => ((true, []), (yz y, [y ≠ 0]))
    | .ldiv, .inr (.inl y) :: _ => ((true, []), (yz y, [y ≠ 0]))
    | .getfield _, .inr (.inr r) :: _ => (match c with
      | 0 => ((Nat.beq (yK D.2.2.1 r).1 a, [(yK D.2.2.1 r).1 = a]), (true, []))
      | 1 => ((Nat.beq (yK D.2.2.1 r).1 a, [(yK D.2.2.1 r).1 = a]), (true, []))
      | _ => ((Nat.beq (yK D.2.2.1 r).1 a && !Nat.beq (yR D.2.1 D.2.2.1 r b) 0, [(yK D.2.2.1 r).1 = a, yR D.2.1 D.2.2.1 r b ≠ 0]), (true, [])))
    | .putfield _, .inl x :: .inr (.inr r) :: _ => (match c with
      | 0 => ((Nat.beq (yK D.2.2.1 r).1 a, [(yK D.2.2.1 r).1 = a]), (true, []))
      | 3 => ((Nat.beq (yK D.2.2.1 r).1 a, [(yK D.2.2.1 r).1 = a]), (y01 x, [x = 0 ∨ x = 1]))
      | _ => ybad)
    | .putfield _, .inr (.inl _) :: .inr (.inr r) :: _ => (match c with
      | 1 => ((Nat.beq (yK D.2.2.1 r).1 a, [(yK D.2.2.1 r).1 = a]), (true, []))
      | _ => ybad)
    | .putfield _, .inr (.inr x) :: .inr (.inr r) :: _ => (match c with
      | 2 => ((Nat.beq (yK D.2.2.1 r).1 a && !Nat.beq x 0, [(yK D.2.2.1 r).1 = a, x ≠ 0]), (true, []))
      | _ => ybad)
    | .iaload, .inl i :: .inr (.inr r) :: _ => ((Nat.ble 20 (yK D.2.2.1 r).1 && Nat.ble (yK D.2.2.1 r).1 21, [20 ≤ (yK D.2.2.1 r).1 ∧ (yK D.2.2.1 r).1 ≤ 21]), (yin i (yK D.2.2.1 r).2, [0 ≤ i ∧ i < ((yK D.2.2.1 r).2 : Int)]))
    | .iastore, .inl _ :: .inl i :: .inr (.inr r) :: _ => ((Nat.beq (yK D.2.2.1 r).1 20, [(yK D.2.2.1 r).1 = 20]), (yin i (yK D.2.2.1 r).2, [0 ≤ i ∧ i < ((yK D.2.2.1 r).2 : Int)]))
    | .laload, .inl i :: .inr (.inr r) :: _ => ((Nat.beq (yK D.2.2.1 r).1 22, [(yK D.2.2.1 r).1 = 22]), (yin i (yK D.2.2.1 r).2, [0 ≤ i ∧ i < ((yK D.2.2.1 r).2 : Int)]))
    | .lastore, .inr (.inl _) :: .inl i :: .inr (.inr r) :: _ => ((Nat.beq (yK D.2.2.1 r).1 22, [(yK D.2.2.1 r).1 = 22]), (yin i (yK D.2.2.1 r).2, [0 ≤ i ∧ i < ((yK D.2.2.1 r).2 : Int)]))
    | .baload, .inl i :: .inr (.inr r) :: _ => ((Nat.beq (yK D.2.2.1 r).1 23, [(yK D.2.2.1 r).1 = 23]), (yin i (yK D.2.2.1 r).2, [0 ≤ i ∧ i < ((yK D.2.2.1 r).2 : Int)]))
    | .bastore, .inl x :: .inl i :: .inr (.inr r) :: _ => ((Nat.beq (yK D.2.2.1 r).1 23, [(yK D.2.2.1 r).1 = 23]), (yin i (yK D.2.2.1 r).2 && y01 x, [0 ≤ i ∧ i < ((yK D.2.2.1 r).2 : Int), x = 0 ∨ x = 1]))
    | .aaload, .inl i :: .inr (.inr r) :: _ => ((Nat.ble 24 (yK D.2.2.1 r).1 && Nat.ble (yK D.2.2.1 r).1 25, [24 ≤ (yK D.2.2.1 r).1 ∧ (yK D.2.2.1 r).1 ≤ 25]), (yin i (yK D.2.2.1 r).2 && !Nat.beq (yR D.2.1 D.2.2.1 r i.toNat) 0, [0 ≤ i ∧ i < ((yK D.2.2.1 r).2 : Int), yR D.2.1 D.2.2.1 r i.toNat ≠ 0]))
    | .arraylength, .inr (.inr r) :: _ => ((Nat.ble 20 (yK D.2.2.1 r).1 && Nat.ble (yK D.2.2.1 r).1 25, [20 ≤ (yK D.2.2.1 r).1 ∧ (yK D.2.2.1 r).1 ≤ 25]), (true, []))
    | .invokestatic _, .inl n :: .inl dp :: .inr (.inr t) :: .inl sp :: .inr (.inr s) :: r => (match b with
      | 1 => ((Nat.beq (yK D.2.2.1 s).1 20 && (Nat.beq (yK D.2.2.1 t).1 20 && Nat.ble (r.map xcat).sum 8), [(yK D.2.2.1 s).1 = 20, (yK D.2.2.1 t).1 = 20, Nat.ble (r.map xcat).sum 8 = true]),
          (decide (0 ≤ sp) && (decide (0 ≤ dp) && (decide (0 ≤ n) && (decide (sp + n ≤ ((yK D.2.2.1 s).2 : Int)) && decide (dp + n ≤ ((yK D.2.2.1 t).2 : Int))))), [0 ≤ sp ∧ 0 ≤ dp ∧ 0 ≤ n, sp + n ≤ ((yK D.2.2.1 s).2 : Int), dp + n ≤ ((yK D.2.2.1 t).2 : Int)]))
      | _ => ybad)
    | .invokestatic _, _ => ybad
    | .invokespecial _, .inr (.inr _) :: r => ((Nat.ble (r.map xcat).sum 8, [Nat.ble (r.map xcat).sum 8 = true]), (true, []))
    | .invokevirtual _, .inr (.inr s) :: r => (match b with
      | 1 => ((Nat.beq (yK D.2.2.1 s).1 26 && Nat.ble (r.map xcat).sum 8, [(yK D.2.2.1 s).1 = 26, Nat.ble (r.map xcat).sum 8 = true]), (true, []))
      | _ => ybad)
    | .invokevirtual _, .inl i :: .inr (.inr s) :: r => (match b with
      | 2 => ((Nat.beq (yK D.2.2.1 s).1 26 && Nat.ble (r.map xcat).sum 8, [(yK D.2.2.1 s).1 = 26, Nat.ble (r.map xcat).sum 8 = true]), (yin i (yK D.2.2.1 s).2, [0 ≤ i ∧ i < ((yK D.2.2.1 s).2 : Int)]))
      | _ => ((Nat.beq (yK D.2.2.1 s).1 26 && Nat.ble (r.map xcat).sum 8, [(yK D.2.2.1 s).1 = 26, Nat.ble (r.map xcat).sum 8 = true]), (true, [])))
    | .ireturn, .inl x :: _ => (match Nat.beq a 3, Nat.beq a 2 with
      | true, _ => ((true, []), (y01 x, [x = 0 ∨ x = 1]))
      | _, true => ((true, []), (decide (0 ≤ x) && decide (x < 65536), [0 ≤ x ∧ x < 65536]))
      | _, _ => yno)
    | .areturn, .inr (.inr x) :: _ => ((!Nat.beq x 0, [x ≠ 0]), (true, []))
    | .new _, _ => (match c with | 0 => ybad | _ => yno)
    | .newarray _, _ => ybad
    | .anewarray _, _ => ybad
    | .multianewarray _ _, _ => ybad
    | .aastore, _ => ybad
    | _, _ => yno
def ycs (u : Bool) (q : Bool × List Prop) (A : Prop) : Prop := match u with
  | true => xAnd q.2 A
  | false => match q.1 with
    | true => A
    | false => False
/-- what an instruction does to the room: 0 nothing, 1 ints, 2 longs, 3 a law -/
def ymu (i : Instr) (b c : Nat) : Nat := match i, c with
  | .putfield _, 0 => 1
  | .putfield _, 3 => 1
  | .putfield _, 1 => 2
  | .putfield _, _ => (match Nat.beq b 11 with | true => 3 | false => 4)
  | .iastore, _ => 1
  | .bastore, _ => 1
  | .lastore, _ => 2
  | .invokestatic _, _ => (match b with
    | 1 => 1
    | _ => 4)
  | .new _, _ => 4
  | .newarray _, _ => 4
  | .anewarray _, _ => 4
  | .multianewarray _ _, _ => 4
  | .aastore, _ => 4
  | _, _ => 0
def xseek (pc : Nat) : List xI → List xI
  | [] => []
  | e :: r => match Nat.beq e.1 pc with
    | true => e :: r
    | false => xseek pc r
def yrc (k : Nat) (u : Bool) (z : Int) (v : Option xV) (D : yD) (A : Prop) : Prop := match k with
  | 1 => A
  | _ => match v with
    | some (.inr (.inr r)) => ycs u (Nat.beq (yK D.2.2.1 r).1 z.toNat, [(yK D.2.2.1 r).1 = z.toNat]) A
    | _ => False
def yns (r : List xI) (pc : Nat) (u : Bool) (A B : Prop) : Prop := match r with
  | [] => False
  | e :: _ => match Nat.beq e.1 pc with
    | false => False
    | true => match u with
      | true => A
      | false => B
def yif (u : Bool) (A B : Prop) : Prop := match u with
  | true => A
  | false => B
def ybq (q : ClassFile.Cond) (x y : Int) : Bool := match q with
  | .eq => decide (x = y)
  | .ne => !(decide (x = y))
  | .lt => decide (x < y)
  | .ge => !(decide (x < y))
  | .gt => decide (y < x)
  | .le => !(decide (y < x))
def ybr (u : Bool) (q : ClassFile.Cond) (x y : Int) (A B : Prop) : Prop := match u with
  | true => xbr q x y A B
  | false => match ybq q x y with
    | true => A
    | false => B
def yaa (i : Instr) : Bool := match i with
  | .aaload => true
  | _ => false
/-- the room behind an instruction -/
def ymem (k : Nat) (ag u : Bool) (st st' : List xV) (M' : xM) (V : xF) (D : yD) (go : List xV → xF → yD → Prop) : Prop := match k with
  | 0 => (match ag, st' with
    | true, .inr (.inr q) :: t => ∀ q1 : Nat, q1 = q → go (vr q1 :: t) V D
    | _, st' => go st' V D)
  | 1 => ∀ V1 : xF, V1 = M'.1 → go st' V1 D
  | 2 => ∀ D1 : yD, D1 = (M'.2.1, D.2) → go st' V D1
  | 3 => (match st with
    | .inr (.inr x) :: .inr (.inr o) :: t => ycs u (yst o, [yst o = true]) (∀ D1 : yD, D1 = (D.1, up1 D.2.1 o x, D.2.2) → go t V D1)
    | _ => False)
  | _ => False
def yeD (o : xRes) (D : yD) : yD := match o with
  | .inr _ => (D.1, D.2.1, D.2.2.1, D.2.2.2.1, D.2.2.2.2.1 + 1, D.2.2.2.2.2 + 6)
  | .inl _ => D
def yend (o : xRes) (V : xF) (D : yD) (Q : xRes → xF → yD → Prop) : Prop := Q o V (yeD o D)
/-- from here on to the heads hd (y * 10000 + pc), the methods inl being gone through, too; dk, dv, nb: where kinds, numbers, branches are told in words -/
def ywp (S : List (Nat × ySm)) (inl dk dv nb hd : List Nat) : Nat → List xI → List xI → Nat → Nat → List xV → List xV → xF → yD → (xRes → xF → yD → Prop) → Prop
  | 0, _, _, _, _, _, _, _, _, _ => False
  | _ + 1, _, [], _, _, _, _, _, _, _ => False
  | n + 1, c, (p0, ins, len, a, b, cc, z) :: r, d, y, ls, st, V, D, Q =>
    match ins, st with
    | .goto _, st => yif (xel hd (y * 10000 + a)) (RY d y a ls st V D Q) (ywp S inl dk dv nb hd n c (xseek a c) d y ls st V D Q)
    | .ifCond q _, .inl x :: t => ybr (xel nb (y * 10000 + p0)) q x 0
        (yif (xel hd (y * 10000 + a)) (RY d y a ls t V D Q) (ywp S inl dk dv nb hd n c (xseek a c) d y ls t V D Q))
        (yns r (p0 + len) (xel hd (y * 10000 + (p0 + len))) (RY d y (p0 + len) ls t V D Q) (ywp S inl dk dv nb hd n c r d y ls t V D Q))
    | .if_icmp q _, .inl x2 :: .inl x :: t => ybr (xel nb (y * 10000 + p0)) q x x2
        (yif (xel hd (y * 10000 + a)) (RY d y a ls t V D Q) (ywp S inl dk dv nb hd n c (xseek a c) d y ls t V D Q))
        (yns r (p0 + len) (xel hd (y * 10000 + (p0 + len))) (RY d y (p0 + len) ls t V D Q) (ywp S inl dk dv nb hd n c r d y ls t V D Q))
    | .tableswitch d0 lo _ offs, .inl x :: t =>
        xsp x (fun t1 => yif (xel hd (y * 10000 + t1)) (RY d y t1 ls t V D Q) (ywp S inl dk dv nb hd n c (xseek t1 c) d y ls t V D Q)) lo (offs.toList.map (fun o => ((p0 : Int) + o).toNat)) ∧
        ((x < lo ∨ lo + (offs.toList.length : Int) ≤ x) → yif (xel hd (y * 10000 + ((p0 : Int) + d0).toNat)) (RY d y ((p0 : Int) + d0).toNat ls t V D Q) (ywp S inl dk dv nb hd n c (xseek ((p0 : Int) + d0).toNat c) d y ls t V D Q))
    | ins, st => match xcl_ ins b with
      | 0 => (match xstep (p0, ins, len, a, b, cc, z) ls st (mk V D) with
        | none => False
        | some (.inl (pc', ls', st', M'), _) => ycs (xel dk (y * 10000 + p0)) (ychk (p0, ins, len, a, b, cc, z) ls st D).1 (ycs (xel dv (y * 10000 + p0)) (ychk (p0, ins, len, a, b, cc, z) ls st D).2
          (yns r pc' true (ymem (ymu ins b cc) (xel dk (y * 10000 + p0) && yaa ins) (xel dk (y * 10000 + p0)) st st' M' V D (fun st V D => yif (xel hd (y * 10000 + pc')) (RY d y pc' ls' st V D Q) (ywp S inl dk dv nb hd n c r d y ls' st V D Q))) False))
        | some (.inr (.inr (o, _)), _) => ycs (xel dk (y * 10000 + p0)) (ychk (p0, ins, len, a, b, cc, z) ls st D).1 (ycs (xel dv (y * 10000 + p0)) (ychk (p0, ins, len, a, b, cc, z) ls st D).2
          (yend o V D Q))
        | some (.inr (.inl _), _) => False)
      | k + 1 => match Nat.ble cc st.length, Nat.ble ((st.drop cc).map xcat).sum 8 with
        | true, true => yrc (k + 1) (xel dk (y * 10000 + p0)) z (st[cc - 1]?) D (match xdep xPP d y a (st.take cc).reverse with
          | none => False
          | some d' => match ysl S a with
            | some f => (match f (st.take cc).reverse V D with
              | some (g', v) => xAnd g' (yns r (p0 + 3) (xel hd (y * 10000 + (p0 + 3))) (RY d y (p0 + 3) ls (v :: st.drop cc) V D Q) (ywp S inl dk dv nb hd n c r d y ls (v :: st.drop cc) V D Q))
              | none => RY d' a 0 (xlocs (xPP.2.1 a) (st.take cc).reverse) [] V D (yback d y (p0 + 3) ls (st.drop cc) Q))
            | none => match xel inl a with
              | true => ywp S inl dk dv nb hd n (xPP.1 a) (xPP.1 a) d' a (xlocs (xPP.2.1 a) (st.take cc).reverse) [] V D (fun o V1 D1 => match o with
                | .inl none => yns r (p0 + 3) (xel hd (y * 10000 + (p0 + 3))) (RY d y (p0 + 3) ls (st.drop cc) V1 D1 Q) (ywp S inl dk dv nb hd n c r d y ls (st.drop cc) V1 D1 Q)
                | .inl (some v) => yns r (p0 + 3) (xel hd (y * 10000 + (p0 + 3))) (RY d y (p0 + 3) ls (v :: st.drop cc) V1 D1 Q) (ywp S inl dk dv nb hd n c r d y ls (v :: st.drop cc) V1 D1 Q)
                | .inr E => match xcatch (xPP.2.2.2 y) E with
                  | none => (match xPP.2.2.2 y with | [] => Q (.inr E) V1 D1 | _ :: _ => False)
                  | some pc' => yif (xel hd (y * 10000 + pc')) (RY d y pc' ls [vr 0] V1 D1 Q) (ywp S inl dk dv nb hd n c (xseek pc' c) d y ls [vr 0] V1 D1 Q))
              | false => RY d' a 0 (xlocs (xPP.2.1 a) (st.take cc).reverse) [] V D (yback d y (p0 + 3) ls (st.drop cc) Q))
        | _, _ => False
def yasc : Nat → List xI → Bool
  | _, [] => true
  | k, e :: r => Nat.ble k e.1 && yasc (e.1 + 1) r
theorem yasc_find : ∀ {l : List xI} {k : Nat}, yasc k l = true → ∀ e ∈ l, k ≤ e.1 ∧ xfind e.1 l = some e := by
  intro l
  induction l with
  | nil => intro k _ e he; cases he
  | cons x l ih =>
    intro k h e he
    simp only [yasc, Bool.and_eq_true] at h
    have h1 := Nat.le_of_ble_eq_true h.1
    rcases List.mem_cons.mp he with rfl | he
    · refine ⟨h1, ?_⟩
      unfold xfind
      rw [if_pos (Nat.beq_refl _)]
    · have h2 := ih h.2 e he
      refine ⟨by omega, ?_⟩
      unfold xfind
      rw [if_neg, h2.2]
      intro hb
      have := Nat.eq_of_beq_eq_true hb
      omega
theorem yasc_all : ∀ y, yasc 0 (xPP.1 y) = true := by
  have h : xkL.all (fun l => yasc 0 l) = true := by decide +kernel
  intro y
  show yasc 0 (xkL.getD y []) = true
  rw [List.getD_eq_getElem?_getD]
  cases hy : xkL[y]? with
  | none => rfl
  | some l => exact List.all_eq_true.mp h l (List.mem_of_getElem? hy)
theorem xseek_mem {pc : Nat} : ∀ {c : List xI}, ∀ e ∈ xseek pc c, e ∈ c := by
  intro c
  induction c with
  | nil => intro e h; cases h
  | cons x c ih =>
    intro e h
    unfold xseek at h
    split at h
    · exact h
    · exact List.mem_cons_of_mem _ (ih e h)
theorem xseek_head {pc : Nat} {e : xI} {r : List xI} : ∀ {c : List xI}, xseek pc c = e :: r → e.1 = pc := by
  intro c
  induction c with
  | nil => intro h; cases h
  | cons x c ih =>
    intro h
    unfold xseek at h
    split at h
    · rename_i hb
      cases h
      exact Nat.eq_of_beq_eq_true hb
    · exact ih h
theorem ycs_of {u : Bool} {q : Bool × List Prop} {A : Prop} (h : ycs u q A) : (q.1 = true ∨ xall q.2) ∧ A := by
  unfold ycs at h
  split at h
  · rw [xAnd_iff] at h
    exact ⟨Or.inr h.1, h.2⟩
  · split at h
    · rename_i hq
      exact ⟨Or.inl hq, h⟩
    · exact h.elim
theorem yif_of {u : Bool} {A B C : Prop} (h : yif u A B) (h1 : A → C) (h2 : B → C) : C := by
  cases u
  · exact h2 h
  · exact h1 h
theorem yns_of {r : List xI} {pc : Nat} {u : Bool} {A B : Prop} (h : yns r pc u A B) : ∃ e r', r = e :: r' ∧ e.1 = pc ∧ yif u A B := by
  match r, h with
  | e :: r', h =>
    simp only [yns] at h
    cases hb : Nat.beq e.1 pc with
    | false => rw [hb] at h; exact h.elim
    | true =>
      rw [hb] at h
      exact ⟨e, r', rfl, Nat.eq_of_beq_eq_true hb, h⟩
theorem yR_law {lw : Nat → Nat} {kd : Nat → Nat × Nat} {o x : Nat} (h : yst o = true) : up2 (yR lw kd) o 11 x = yR (up1 lw o x) kd := by
  funext a j
  unfold up2 up1 yR
  by_cases hj : j = 11
  · subst hj
    by_cases ha : a = o
    · subst ha
      rw [h]
      simp
    · simp [ha]
  · have : Nat.beq j 11 = false := by
      cases hb : Nat.beq j 11 with
      | false => rfl
      | true => exact absurd (Nat.eq_of_beq_eq_true hb) hj
    simp [this, hj]
theorem xsp_at {x : Int} {F : Nat → Prop} : ∀ {l : List Nat} {k : Int}, xsp x F k l → ∀ i : Nat, x = k + i → ∀ t, l[i]? = some t → F t := by
  intro l
  induction l with
  | nil => intro k _ i _ t h; cases h
  | cons u l ih =>
    intro k h i hx t ht
    cases i with
    | zero =>
      cases ht
      exact h.1 (by simpa using hx)
    | succ i => exact ih h.2 i (by rw [hx]; push_cast; omega) t (by simpa using ht)
theorem yz_of {y : Int} (h : yz y = true ∨ y ≠ 0) : y ≠ 0 := by
  rcases h with h | h
  · unfold yz at h
    simpa using h
  · exact h
theorem yin_of {i : Int} {n : Nat} (h : yin i n = true ∨ (0 ≤ i ∧ i < (n : Int))) : 0 ≤ i ∧ i < (n : Int) := by
  rcases h with h | h
  · unfold yin at h
    simpa using h
  · exact h
theorem y01_of {x : Int} (h : y01 x = true ∨ (x = 0 ∨ x = 1)) : x = 0 ∨ x = 1 := by
  rcases h with h | h
  · unfold y01 at h
    simpa using h
  · exact h
theorem ybeq_of {x y : Nat} (h : Nat.beq x y = true ∨ x = y) : x = y := by
  rcases h with h | h
  · exact Nat.eq_of_beq_eq_true h
  · exact h
theorem ynb_of {x : Nat} (h : (!Nat.beq x 0) = true ∨ x ≠ 0) : x ≠ 0 := by
  rcases h with h | h
  · intro hx
    subst hx
    cases h
  · exact h
theorem ylt_of {x y : Nat} (h : Nat.blt x y = true ∨ x < y) : x < y := by
  rcases h with h | h
  · exact Nat.le_of_ble_eq_true h
  · exact h
theorem yble2_of {x : Nat} {p q : Nat} (h : (Nat.ble p x && Nat.ble x q) = true ∨ (p ≤ x ∧ x ≤ q)) : p ≤ x ∧ x ≤ q := by
  rcases h with h | h
  · rw [Bool.and_eq_true] at h
    exact ⟨Nat.le_of_ble_eq_true h.1, Nat.le_of_ble_eq_true h.2⟩
  · exact h
theorem yand2_of {p q : Bool} {A B : Prop} (h : (p && q) = true ∨ (A ∧ B)) : (p = true ∨ A) ∧ (q = true ∨ B) := by
  rcases h with h | h
  · rw [Bool.and_eq_true] at h
    exact ⟨Or.inl h.1, Or.inl h.2⟩
  · exact ⟨Or.inr h.1, Or.inr h.2⟩
theorem yfal_of (h : false = true ∨ False) : False := by
  rcases h with h | h
  · cases h
  · exact h
theorem ydec_of {p : Prop} [Decidable p] (h : decide p = true ∨ p) : p := by
  rcases h with h | h
  · exact of_decide_eq_true h
  · exact h
theorem ybl_of {b : Bool} (h : b = true ∨ b = true) : b = true := h.elim id id
set_option maxHeartbeats 4000000 in
theorem ychk_ok {e : xI} {ls st : List xV} {V : xF} {D : yD} {o : xOut} {g : List Prop} (hc : xcl_ e.2.1 e.2.2.2.2.1 = 0) (h : xstep e ls st (mk V D) = some (o, g)) (h1 : (ychk e ls st D).1.1 = true ∨ xall (ychk e ls st D).1.2) (h2 : (ychk e ls st D).2.1 = true ∨ xall (ychk e ls st D).2.2) : xall g := by
  obtain ⟨pc, ins, len, a, b, c, z⟩ := e
  cases ins <;> simp only [xstep, xldI, xldL, xldA, xstI, xstL, xstA, xII, xLL, nx] at h <;> (repeat' split at h) <;> first | (cases h; done) | (cases h; exact trivial) | skip
  all_goals cases h
  all_goals (try subst_vars)
  all_goals (simp only [xcl_] at hc)
  all_goals (try (cases hc; done))
  all_goals (simp only [ychk, ybad, yno, xall, *] at h1 h2)
  all_goals (first | exact (yfal_of h1).elim | skip)
  all_goals (simp only [xall, mk])
  all_goals (first
    | exact ylt_of h1
    | exact ynb_of h1
    | exact yz_of h2
    | exact ybeq_of h1
    | exact ⟨ybeq_of (yand2_of h1).1, ynb_of (yand2_of h1).2⟩
    | exact ⟨ybeq_of h1, y01_of h2⟩
    | exact ⟨yble2_of h1, yin_of h2⟩
    | exact ⟨ybeq_of h1, yin_of h2⟩
    | exact ⟨ybeq_of h1, yin_of (yand2_of h2).1, y01_of (yand2_of h2).2⟩
    | exact ⟨yble2_of h1, yin_of (yand2_of h2).1, ynb_of (yand2_of h2).2⟩
    | exact yble2_of h1
    | exact ybl_of h1
    | exact ⟨ybeq_of (yand2_of h1).1, ybl_of (yand2_of h1).2⟩
    | exact ⟨ybeq_of (yand2_of h1).1, yin_of h2, ybl_of (yand2_of h1).2⟩
    | exact y01_of h2
    | (rcases h2 with h2 | h2
       · simpa using h2
       · exact h2)
    | (obtain ⟨k1, k2⟩ := yand2_of h1
       obtain ⟨k2, k3⟩ := yand2_of k2
       refine ⟨ybeq_of k1, ybeq_of k2, ?_⟩
       rcases h2 with h2 | h2
       · simp only [Bool.and_eq_true, decide_eq_true_eq] at h2
         exact ⟨⟨h2.1, h2.2.1, h2.2.2.1⟩, h2.2.2.2.1, h2.2.2.2.2, ybl_of k3⟩
       · exact ⟨h2.1, h2.2.1, h2.2.2, ybl_of k3⟩)
    | skip)
set_option maxHeartbeats 4000000 in
/-- what an instruction does to the room -/
theorem ystep_mem {e : xI} {ls st : List xV} {V : xF} {D : yD} {pc' : Nat} {ls' st' : List xV} {M' : xM} {g : List Prop} (hc : xcl_ e.2.1 e.2.2.2.2.1 = 0) (h : xstep e ls st (mk V D) = some (.inl (pc', ls', st', M'), g)) :
    (ymu e.2.1 e.2.2.2.2.1 e.2.2.2.2.2.1 = 0 → M' = mk V D) ∧ (ymu e.2.1 e.2.2.2.2.1 e.2.2.2.2.2.1 = 1 → M' = mk M'.1 D) ∧ (ymu e.2.1 e.2.2.2.2.1 e.2.2.2.2.2.1 = 2 → M' = mk V (M'.2.1, D.2)) ∧
    (ymu e.2.1 e.2.2.2.2.1 e.2.2.2.2.2.1 = 3 → ∃ x o t, st = .inr (.inr x) :: .inr (.inr o) :: t ∧ st' = t ∧ ls' = ls ∧ M' = (V, D.1, up2 (yR D.2.1 D.2.2.1) o 11 x, (yK D.2.2.1, D.2.2.2))) := by
  obtain ⟨pc, ins, len, a, b, c, z⟩ := e
  cases ins <;> simp only [xstep, xldI, xldL, xldA, xstI, xstL, xstA, xII, xLL, nx] at h <;> (repeat' split at h) <;> first | (cases h; done) | skip
  all_goals cases h
  all_goals (try subst_vars)
  all_goals (simp only [xcl_] at hc)
  all_goals (try (cases hc; done))
  all_goals refine ⟨fun h => ?_, fun h => ?_, fun h => ?_, fun h => ?_⟩
  all_goals first | rfl | (simp [ymu] at h; done) | skip
  all_goals (simp only [ymu] at h; split at h <;> (first | (exact absurd h (by decide)) | skip))
  all_goals (have hb := Nat.eq_of_beq_eq_true (by assumption); subst hb; exact ⟨_, _, _, rfl, rfl, rfl, rfl⟩)
theorem ystep_end {e : xI} {ls st : List xV} {V : xF} {D : yD} {o : xRes} {M' : xM} {g : List Prop} (hc : xcl_ e.2.1 e.2.2.2.2.1 = 0) (h : xstep e ls st (mk V D) = some (.inr (.inr (o, M')), g)) :
    M' = mk V (yeD o D) := by
  obtain ⟨pc, ins, len, a, b, c, z⟩ := e
  cases ins <;> simp only [xstep, xldI, xldL, xldA, xstI, xstL, xstA, xII, xLL, nx] at h <;> (repeat' split at h) <;> first | (cases h; done) | skip
  all_goals cases h
  all_goals rfl
def ySOK (S : List (Nat × ySm)) : Prop := ∀ q ∈ S, ∀ (args : List xV) (V : xF) (D : yD) (gs : List Prop) (v : xV), q.2 args V D = some (gs, v) → xall gs → ∀ d, (xlay args).length ≤ xPP.2.1 q.1 → RY d q.1 0 (xlocs (xPP.2.1 q.1) args) [] V D (fun r V1 D1 => r = .inl (some v) ∧ V1 = V ∧ D1 = D)
theorem ysl_mem {y : Nat} {f : ySm} : ∀ {S : List (Nat × ySm)}, ysl S y = some f → (y, f) ∈ S := by
  intro S
  induction S with
  | nil => intro h; cases h
  | cons q r ih =>
    intro h
    unfold ysl at h
    split at h
    · rename_i hb
      cases h
      have := Nat.eq_of_beq_eq_true hb
      subst this
      exact List.mem_cons_self
    · exact List.mem_cons_of_mem _ (ih h)
theorem xdep_len {P : xP} {d y y' d' : Nat} {args : List xV} (h : xdep P d y y' args = some d') : (xlay args).length ≤ P.2.1 y' := by
  unfold xdep at h
  split at h
  · rename_i hb; exact Nat.le_of_ble_eq_true hb
  · cases h
theorem yrc_of {u : Bool} {z : Int} {v : Option xV} {D : yD} {A : Prop} (h : yrc 2 u z v D A) : ∃ r, v = some (.inr (.inr r)) ∧ ycs u (Nat.beq (yK D.2.2.1 r).1 z.toNat, [(yK D.2.2.1 r).1 = z.toNat]) A := by
  match v, h with
  | some (.inr (.inr r)), h => exact ⟨r, rfl, h⟩
theorem ybr_of {u : Bool} {q : ClassFile.Cond} {x y : Int} {A B : Prop} {C : Nat → Prop} {t f : Nat} (h : ybr u q x y A B) (hA : A → C t) (hB : B → C f) : C (xbrc f t q x y) := by
  cases u with
  | true =>
    unfold ybr at h
    cases q <;> simp only [xbr] at h <;> simp only [xbrc] <;> split <;> rename_i hx
    all_goals first | exact hA (h.1 hx) | exact hB (h.2 hx) | exact hA (h.1 (by omega)) | exact hB (h.2 (by omega))
  | false =>
    unfold ybr at h
    cases q <;> simp only [ybq] at h <;> simp only [xbrc] <;> split <;> rename_i hx
    all_goals first | exact hA (by simpa [hx] using h) | exact hB (by simpa [hx] using h)
set_option maxHeartbeats 8000000 in
theorem ywp_sound {S : List (Nat × ySm)} {inl dk dv nb hd : List Nat} (hS : ySOK S) : ∀ (n : Nat) {c cur : List xI} {d y : Nat} {ls st : List xV} {V : xF} {D : yD} {Q : xRes → xF → yD → Prop} {e : xI} {r : List xI}, xPP.1 y = c → cur = e :: r → (∀ x ∈ cur, x ∈ c) → ywp S inl dk dv nb hd n c cur d y ls st V D Q → RY d y e.1 ls st V D Q := by
  intro n
  induction n with
  | zero => intro c cur d y ls st V D Q e r _ _ _ h; cases cur <;> exact h.elim
  | succ n ih =>
    intro c cur d y ls st V D Q e r hc hcur hsub h
    subst hcur
    have hgood := yasc_all y
    rw [hc] at hgood
    obtain ⟨p0, ins, len, a, b, cc, z⟩ := e
    have he : xfind p0 (xPP.1 y) = some (p0, ins, len, a, b, cc, z) := by rw [hc]; exact (yasc_find hgood _ (hsub _ List.mem_cons_self)).2
    -- a jump, in any frame
    have seek : ∀ {c : List xI} {d y t : Nat} {ls' st' : List xV} {V' : xF} {D' : yD} {Q' : xRes → xF → yD → Prop} {u : Bool}, xPP.1 y = c → yif u (RY d y t ls' st' V' D' Q') (ywp S inl dk dv nb hd n c (xseek t c) d y ls' st' V' D' Q') → RY d y t ls' st' V' D' Q' := by
      intro c d y t ls' st' V' D' Q' u hc h
      refine yif_of h id fun h => ?_
      cases hs : xseek t c with
      | nil => rw [hs] at h; cases n <;> exact h.elim
      | cons e' r' =>
        have := xseek_head hs
        subst this
        rw [hs] at h
        exact ih hc rfl (fun x hx => xseek_mem (pc := e'.1) x (by rw [hs]; exact hx)) h
    have next : ∀ {t : Nat} {ls' st' : List xV} {V' : xF} {D' : yD} {Q' : xRes → xF → yD → Prop} {u : Bool}, yns r t u (RY d y t ls' st' V' D' Q') (ywp S inl dk dv nb hd n c r d y ls' st' V' D' Q') → RY d y t ls' st' V' D' Q' := by
      intro t ls' st' V' D' Q' u h
      obtain ⟨e', r', hr, ht, h⟩ := yns_of h
      subst ht
      refine yif_of h id fun h => ?_
      exact ih hc hr (fun x hx => hsub x (List.mem_cons_of_mem _ hx)) h
    have next2 : ∀ {t : Nat} {e' : xI} {r' : List xI} {ls' st' : List xV} {V' : xF} {D' : yD} {Q' : xRes → xF → yD → Prop} {u : Bool}, r = e' :: r' → e'.1 = t → yif u (RY d y t ls' st' V' D' Q') (ywp S inl dk dv nb hd n c r d y ls' st' V' D' Q') → RY d y t ls' st' V' D' Q' := by
      intro t e' r' ls' st' V' D' Q' u hr ht h
      subst ht
      refine yif_of h id fun h => ?_
      exact ih hc hr (fun x hx => hsub x (List.mem_cons_of_mem _ hx)) h
    unfold ywp at h
    show RY d y p0 ls st V D Q
    split at h
    · exact Runs.step he (g := []) rfl trivial (seek hc h)
    · rename_i q o x t
      refine Runs.step he (pc' := xbrc (p0 + len) a q x 0) (g := []) rfl trivial ?_
      exact ybr_of (C := fun t' => Runs xPP d y t' ls t (mk V D) (yQ Q)) h (seek hc) next
    · rename_i q o x2 x t
      refine Runs.step he (pc' := xbrc (p0 + len) a q x x2) (g := []) rfl trivial ?_
      exact ybr_of (C := fun t' => Runs xPP d y t' ls t (mk V D) (yQ Q)) h (seek hc) next
    · rename_i d0 lo hi offs x t
      refine Runs.step he (pc' := xsw lo (offs.toList.map (fun o => ((p0 : Int) + o).toNat)) ((p0 : Int) + d0).toNat x) (g := []) rfl trivial ?_
      unfold xsw
      by_cases h1 : x < lo
      · rw [if_pos h1]
        exact seek hc (h.2 (Or.inl h1))
      · rw [if_neg h1]
        cases h2 : (offs.toList.map (fun o => ((p0 : Int) + o).toNat))[(x - lo).toNat]? with
        | some t1 => exact seek hc (xsp_at h.1 (x - lo).toNat (by omega) t1 h2)
        | none =>
          rw [List.getElem?_eq_none_iff, List.length_map] at h2
          exact seek hc (h.2 (Or.inr (by omega)))
    · split at h
      · rename_i hk
        split at h
        · exact h.elim
        · rename_i pc' ls' st' M' g hs
          obtain ⟨h1, h⟩ := ycs_of h
          obtain ⟨h2, h⟩ := ycs_of h
          obtain ⟨e', r', hr, ht, h⟩ := yns_of h
          have hg := ychk_ok (e := (p0, ins, len, a, b, cc, z)) hk hs h1 h2
          obtain ⟨m0, m1, m2, m3⟩ := ystep_mem (e := (p0, ins, len, a, b, cc, z)) hk hs
          have h : ymem (ymu ins b cc) (xel dk (y * 10000 + p0) && yaa ins) (xel dk (y * 10000 + p0)) st st' M' V D (fun st V D => yif (xel hd (y * 10000 + pc')) (RY d y pc' ls' st V D Q) (ywp S inl dk dv nb hd n c r d y ls' st V D Q)) := h
          refine Runs.step he hs hg ?_
          dsimp only at m0 m1 m2 m3
          generalize ymu ins b cc = mu at h m0 m1 m2 m3
          generalize (xel dk (y * 10000 + p0) && yaa ins) = ag at h
          unfold ymem at h
          split at h
          · rw [m0 rfl]
            split at h
            · exact next2 hr ht (h _ rfl)
            · exact next2 hr ht h
          · rw [m1 rfl]
            exact next2 hr ht (h _ rfl)
          · rw [m2 rfl]
            exact next2 hr ht (h _ rfl)
          · obtain ⟨x, o, t, e1, e2, e3, hM⟩ := m3 rfl
            subst e1
            dsimp only at h
            obtain ⟨h3, h⟩ := ycs_of h
            have hy : yst o = true := by
              rcases h3 with h3 | h3
              · exact h3
              · exact h3
            rw [hM, yR_law hy, e2]
            exact next2 hr ht (h _ rfl)
          · exact h.elim
        · rename_i o M' g hs
          obtain ⟨h1, h⟩ := ycs_of h
          obtain ⟨h2, h⟩ := ycs_of h
          have hg := ychk_ok (e := (p0, ins, len, a, b, cc, z)) hk hs h1 h2
          have hM := ystep_end (e := (p0, ins, len, a, b, cc, z)) hk hs
          refine Runs.stop (c := xPP.1 y) rfl ?_ hg (r := o) (M' := M') ?_
          · rw [xstop, he]
            dsimp only
            rw [hs]
          · exact ⟨_, _, hM, h⟩
        · exact h.elim
      · rename_i k hk
        split at h
        · rename_i e1 e2
          have hrc : ∃ g, xstop (xPP.1 y) p0 ls st (mk V D) = some (.inl (a, (st.take cc).reverse, st.drop cc), g) ∧ xall g := by
            unfold xcl_ at hk
            split at hk
            · cases hk
              refine ⟨_, by rw [xstop, he]; rfl, ?_⟩
              exact ⟨e1, e2⟩
            · cases hk
              refine ⟨_, by rw [xstop, he]; rfl, ?_⟩
              refine ⟨e1, e2, ?_⟩
              obtain ⟨r1, hr1, h9⟩ := yrc_of h
              obtain ⟨h1, h8⟩ := ycs_of h9
              rw [hr1]
              exact ybeq_of h1
            · cases hk
              refine ⟨_, by rw [xstop, he]; rfl, ?_⟩
              refine ⟨e1, e2, ?_⟩
              obtain ⟨r1, hr1, h9⟩ := yrc_of h
              obtain ⟨h1, h8⟩ := ycs_of h9
              rw [hr1]
              exact ybeq_of h1
            · cases hk
          have h : (match xdep xPP d y a (st.take cc).reverse with
              | none => False
              | some d' => match ysl S a with
                | some f => (match f (st.take cc).reverse V D with
                  | some (g', v) => xAnd g' (yns r (p0 + 3) (xel hd (y * 10000 + (p0 + 3))) (RY d y (p0 + 3) ls (v :: st.drop cc) V D Q) (ywp S inl dk dv nb hd n c r d y ls (v :: st.drop cc) V D Q))
                  | none => RY d' a 0 (xlocs (xPP.2.1 a) (st.take cc).reverse) [] V D (yback d y (p0 + 3) ls (st.drop cc) Q))
                | none => match xel inl a with
                  | true => ywp S inl dk dv nb hd n (xPP.1 a) (xPP.1 a) d' a (xlocs (xPP.2.1 a) (st.take cc).reverse) [] V D (fun o V1 D1 => match o with
                    | .inl none => yns r (p0 + 3) (xel hd (y * 10000 + (p0 + 3))) (RY d y (p0 + 3) ls (st.drop cc) V1 D1 Q) (ywp S inl dk dv nb hd n c r d y ls (st.drop cc) V1 D1 Q)
                    | .inl (some v) => yns r (p0 + 3) (xel hd (y * 10000 + (p0 + 3))) (RY d y (p0 + 3) ls (v :: st.drop cc) V1 D1 Q) (ywp S inl dk dv nb hd n c r d y ls (v :: st.drop cc) V1 D1 Q)
                    | .inr E => match xcatch (xPP.2.2.2 y) E with
                      | none => (match xPP.2.2.2 y with | [] => Q (.inr E) V1 D1 | _ :: _ => False)
                      | some pc' => yif (xel hd (y * 10000 + pc')) (RY d y pc' ls [vr 0] V1 D1 Q) (ywp S inl dk dv nb hd n c (xseek pc' c) d y ls [vr 0] V1 D1 Q))
                  | false => RY d' a 0 (xlocs (xPP.2.1 a) (st.take cc).reverse) [] V D (yback d y (p0 + 3) ls (st.drop cc) Q)) := by
            unfold yrc at h
            split at h
            · exact h
            · split at h
              · exact (ycs_of h).2
              · exact h.elim
          obtain ⟨g, hs, hg⟩ := hrc
          split at h
          · exact h.elim
          · rename_i d' hd'
            refine Runs.callD (c := xPP.1 y) rfl hs hg hd' ?_
            have hback : ∀ {M1 : xM} {r1 : xRes}, yQ (yback d y (p0 + 3) ls (st.drop cc) Q) r1 M1 → xback xPP d y (p0 + 3) ls (st.drop cc) (yQ Q) r1 M1 := by
              rintro M1 r1 ⟨V1, D1, rfl, h5⟩
              match r1, h5 with
              | .inl none, h5 => exact h5
              | .inl (some v), h5 => exact h5
              | .inr E, h5 =>
                unfold yback at h5
                unfold xback
                dsimp only at h5 ⊢
                split at h5
                · rename_i hx
                  rw [hx]
                  exact ⟨h5.1, _, _, rfl, h5.2⟩
                · rename_i pc' hx
                  rw [hx]
                  exact h5
            split at h
            · rename_i f hf
              split at h
              · rename_i g' v hv
                rw [xAnd_iff] at h
                refine Runs.mono (hS _ (ysl_mem hf) _ V D g' v hv h.1 d' (xdep_len hd')) ?_
                rintro r1 M1 ⟨V1, D1, rfl, rfl, rfl, rfl⟩
                exact next h.2
              · exact Runs.mono h fun r1 M1 h5 => hback h5
            · split at h
              · have hin : RY d' a 0 (xlocs (xPP.2.1 a) (st.take cc).reverse) [] V D (fun o V1 D1 => match o with
                    | .inl none => yns r (p0 + 3) (xel hd (y * 10000 + (p0 + 3))) (RY d y (p0 + 3) ls (st.drop cc) V1 D1 Q) (ywp S inl dk dv nb hd n c r d y ls (st.drop cc) V1 D1 Q)
                    | .inl (some v) => yns r (p0 + 3) (xel hd (y * 10000 + (p0 + 3))) (RY d y (p0 + 3) ls (v :: st.drop cc) V1 D1 Q) (ywp S inl dk dv nb hd n c r d y ls (v :: st.drop cc) V1 D1 Q)
                    | .inr E => match xcatch (xPP.2.2.2 y) E with
                      | none => (match xPP.2.2.2 y with | [] => Q (.inr E) V1 D1 | _ :: _ => False)
                      | some pc' => yif (xel hd (y * 10000 + pc')) (RY d y pc' ls [vr 0] V1 D1 Q) (ywp S inl dk dv nb hd n c (xseek pc' c) d y ls [vr 0] V1 D1 Q)) := by
                  cases ha : xPP.1 a with
                  | nil => rw [ha] at h; cases n <;> exact h.elim
                  | cons e' r' =>
                    have h0 : e'.1 = 0 := by
                      have hall : ∀ y, ∀ e ∈ (xPP.1 y).head?, e.1 = 0 := by
                        have hb : xkL.all (fun l => match l with | [] => true | e :: _ => Nat.beq e.1 0) = true := by decide +kernel
                        intro y e he
                        have he : e ∈ (xkL.getD y []).head? := he
                        rw [List.getD_eq_getElem?_getD] at he
                        cases hy : xkL[y]? with
                        | none => rw [hy] at he; cases he
                        | some l =>
                          rw [hy] at he
                          have := List.all_eq_true.mp hb l (List.mem_of_getElem? hy)
                          cases l with
                          | nil => cases he
                          | cons x l => cases he; exact Nat.eq_of_beq_eq_true this
                      exact hall a e' (by rw [ha]; exact rfl)
                    have := ih (e := e') (r := r') rfl ha (fun x hx => hx) h
                    rw [h0] at this
                    exact this
                refine Runs.mono hin ?_
                rintro r1 M1 ⟨V1, D1, rfl, h5⟩
                match r1, h5 with
                | .inl none, h5 => exact next h5
                | .inl (some v), h5 => exact next h5
                | .inr E, h5 =>
                  unfold xback
                  dsimp only at h5 ⊢
                  split at h5
                  · rename_i hx
                    rw [hx]
                    dsimp only
                    split at h5
                    · rename_i hp
                      exact ⟨hp, _, _, rfl, h5⟩
                    · exact h5.elim
                  · rename_i pc' hx
                    rw [hx]
                    exact seek hc h5
              · exact Runs.mono h fun r1 M1 h5 => hback h5
        · exact h.elim
