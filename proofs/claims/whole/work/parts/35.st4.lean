/-! ===== STRETCHES 4 (printed by wip/whole/ym.py) ===== -/
set_option maxRecDepth 20000 in
theorem u_244_98_81 {d : Nat} {i2 i3 i4 i5 i_1 i_2 : Int} {V : xF} {D : yD} {Q : xRes → xF → yD → Prop}
    (h : ((0 : Int) ≤ i_1 ∧ i_1 < (5 : Int)) ∧ (∀ V1 : xF, V1 = up2 V 402 i_1.toNat i_2 → RY d 244 65 [vr 390, vr 81, vi i2, vi i3, vi i4, vi (wr (i5 + 1))] [] V1 D Q)) :
    RY d 244 98 [vr 390, vr 81, vi i2, vi i3, vi i4, vi i5] [vi i_2, vi i_1, vr 402] V D Q := yat (c := xk_244) (hd := [2440005, 2440053, 2440065, 2440112]) (dk := []) (dv := [2440102]) (nb := []) rfl h
set_option maxRecDepth 20000 in
theorem u_244_112_81 {d : Nat} {i2 i3 i4 i5 : Int} {V : xF} {D : yD} {Q : xRes → xF → yD → Prop}
    (h : ((V 81 6) ≤ i5 → RY d 244 53 [vr 390, vr 81, vi i2, vi i3, vi (wr (i4 + 1)), vi i5] [] V D Q) ∧ (i5 < (V 81 6) → RY d 318 0 [vr 390, vr 81, vi i5, vr 0, vr 0] [] V D (yback d 244 128 [vr 390, vr 81, vi i2, vi i3, vi i4, vi i5] [] Q))) :
    RY d 244 112 [vr 390, vr 81, vi i2, vi i3, vi i4, vi i5] [] V D Q := yat (c := xk_244) (hd := [2440005, 2440053, 2440065, 2440112]) (dk := []) (dv := []) (nb := [2440118]) rfl h
set_option maxRecDepth 20000 in
theorem u_244_128_81 {d : Nat} {i2 i3 i4 i5 i_0 : Int} {V : xF} {D : yD} {Q : xRes → xF → yD → Prop}
    (h : (i_0 = 0 → RY d 244 112 [vr 390, vr 81, vi i2, vi i3, vi i4, vi (wr (i5 + 1))] [] V D Q) ∧ (i_0 ≠ 0 → (((0 : Int) ≤ i5 ∧ i5 < (5 : Int)) ∧ ((0 : Int) ≤ i5 ∧ i5 < (5 : Int)) ∧ (∀ V1 : xF, V1 = up2 V 403 i5.toNat (V 402 i5.toNat) → RY d 244 112 [vr 390, vr 81, vi i2, vi (xand i3 (xxor (xshl 1 i5) ((-1)))), vi i4, vi (wr (i5 + 1))] [] V1 D Q)))) :
    RY d 244 128 [vr 390, vr 81, vi i2, vi i3, vi i4, vi i5] [vi i_0] V D Q := yat (c := xk_244) (hd := [2440005, 2440053, 2440065, 2440112]) (dk := []) (dv := [2440143, 2440144]) (nb := [2440128]) rfl h
set_option maxRecDepth 20000 in
theorem u_245_0 {d : Nat} {i1 i2 : Int} {V : xF} {D : yD} {Q : xRes → xF → yD → Prop}
    (h : RY d 135 0 [vr 405, vi i2] [] V D (yback d 245 5 [vr 405, vi i1, vi i2, vr 0, vr 0, vr 0, vr 0] [] Q)) :
    RY d 245 0 [vr 405, vi i1, vi i2, vr 0, vr 0, vr 0, vr 0] [] V D Q := yat (c := xk_245) (hd := [2450183]) (dk := []) (dv := []) (nb := []) rfl h
set_option maxRecDepth 20000 in
theorem u_245_5 {d : Nat} {i1 i2 i_0 : Int} {V : xF} {D : yD} {Q : xRes → xF → yD → Prop}
    (h : RY d 178 0 [vr 405, vr 0, vr 0] [] V D (yback d 245 10 [vr 405, vi i1, vi i2, vi i_0, vr 0, vr 0, vr 0] [] Q)) :
    RY d 245 5 [vr 405, vi i1, vi i2, vr 0, vr 0, vr 0, vr 0] [vi i_0] V D Q := yat (c := xk_245) (hd := [2450183]) (dk := []) (dv := []) (nb := []) rfl h
set_option maxRecDepth 20000 in
theorem u_245_10 {d : Nat} {i1 i2 i3 i_0 : Int} {V : xF} {D : yD} {Q : xRes → xF → yD → Prop}
    (h : yg_133 i2 6 V D ∧ yg_143 i1 1 V D ∧ (∀ V1 : xF, V1 = up2 V 405 17 (wr ((wr ((20 : Int) - (yr_133 i2 6 V D))) - (wr ((5 : Int) * (yr_185 0 (wr (i3 - (yr_143 i1 1 V D))) V D))))) → (yg_133 i2 6 V1 D ∧ yg_143 i1 0 V1 D ∧ (((yr_133 i2 6 V1 D) ≤ (yr_143 i1 0 V1 D) → ∀ V2 : xF, V2 = up2 V1 405 18 0 → ∀ V3 : xF, V3 = up2 V2 411 0 i1 → ∀ V4 : xF, V4 = up2 V3 411 1 i2 → (yg_133 i2 0 V4 D ∧ (∀ V5 : xF, V5 = up2 V4 411 2 (yr_133 i2 0 V4 D) → (yg_133 i2 1 V5 D ∧ (∀ V6 : xF, V6 = up2 V5 411 3 (yr_133 i2 1 V5 D) → (yg_133 i2 6 V6 D ∧ (∀ V7 : xF, V7 = up2 V6 411 4 (yr_133 i2 6 V6 D) → ∀ V8 : xF, V8 = up2 V7 411 5 i3 → ((i_0 ≠ ((-1)) → (((0 : Int) ≤ i_0 ∧ i_0 < (64 : Int)) ∧ (∀ V9 : xF, V9 = up2 V8 411 6 (V8 412 i_0.toNat) → ∀ V10 : xF, V10 = up2 V9 411 7 (V9 406 12) → ((i3 ≠ 0 → ∀ V11 : xF, V11 = up2 V10 405 15 0 → ∀ V12 : xF, V12 = up2 V11 405 16 0 → RY d 245 183 [vr 405, vi i1, vi i2, vi i3, vi i_0, vi 0, vr 0] [] V12 D Q) ∧ (i3 = 0 → ∀ V13 : xF, V13 = up2 V10 405 15 1 → ∀ V14 : xF, V14 = up2 V13 405 16 0 → RY d 245 183 [vr 405, vi i1, vi i2, vi i3, vi i_0, vi 0, vr 0] [] V14 D Q))))) ∧ (i_0 = ((-1)) → ∀ V15 : xF, V15 = up2 V8 411 6 0 → ∀ V16 : xF, V16 = up2 V15 411 7 (V15 406 12) → ((i3 ≠ 0 → ∀ V17 : xF, V17 = up2 V16 405 15 0 → ∀ V18 : xF, V18 = up2 V17 405 16 0 → RY d 245 183 [vr 405, vi i1, vi i2, vi i3, vi i_0, vi 0, vr 0] [] V18 D Q) ∧ (i3 = 0 → ∀ V19 : xF, V19 = up2 V16 405 15 1 → ∀ V20 : xF, V20 = up2 V19 405 16 0 → RY d 245 183 [vr 405, vi i1, vi i2, vi i3, vi i_0, vi 0, vr 0] [] V20 D Q))))))))))) ∧ ((yr_143 i1 0 V1 D) < (yr_133 i2 6 V1 D) → ∀ V21 : xF, V21 = up2 V1 405 18 1 → ∀ V22 : xF, V22 = up2 V21 411 0 i1 → ∀ V23 : xF, V23 = up2 V22 411 1 i2 → (yg_133 i2 0 V23 D ∧ (∀ V24 : xF, V24 = up2 V23 411 2 (yr_133 i2 0 V23 D) → (yg_133 i2 1 V24 D ∧ (∀ V25 : xF, V25 = up2 V24 411 3 (yr_133 i2 1 V24 D) → (yg_133 i2 6 V25 D ∧ (∀ V26 : xF, V26 = up2 V25 411 4 (yr_133 i2 6 V25 D) → ∀ V27 : xF, V27 = up2 V26 411 5 i3 → ((i_0 ≠ ((-1)) → (((0 : Int) ≤ i_0 ∧ i_0 < (64 : Int)) ∧ (∀ V28 : xF, V28 = up2 V27 411 6 (V27 412 i_0.toNat) → ∀ V29 : xF, V29 = up2 V28 411 7 (V28 406 12) → ((i3 ≠ 0 → ∀ V30 : xF, V30 = up2 V29 405 15 0 → ∀ V31 : xF, V31 = up2 V30 405 16 0 → RY d 245 183 [vr 405, vi i1, vi i2, vi i3, vi i_0, vi 0, vr 0] [] V31 D Q) ∧ (i3 = 0 → ∀ V32 : xF, V32 = up2 V29 405 15 1 → ∀ V33 : xF, V33 = up2 V32 405 16 0 → RY d 245 183 [vr 405, vi i1, vi i2, vi i3, vi i_0, vi 0, vr 0] [] V33 D Q))))) ∧ (i_0 = ((-1)) → ∀ V34 : xF, V34 = up2 V27 411 6 0 → ∀ V35 : xF, V35 = up2 V34 411 7 (V34 406 12) → ((i3 ≠ 0 → ∀ V36 : xF, V36 = up2 V35 405 15 0 → ∀ V37 : xF, V37 = up2 V36 405 16 0 → RY d 245 183 [vr 405, vi i1, vi i2, vi i3, vi i_0, vi 0, vr 0] [] V37 D Q) ∧ (i3 = 0 → ∀ V38 : xF, V38 = up2 V35 405 15 1 → ∀ V39 : xF, V39 = up2 V38 405 16 0 → RY d 245 183 [vr 405, vi i1, vi i2, vi i3, vi i_0, vi 0, vr 0] [] V39 D Q))))))))))))))) :
    RY d 245 10 [vr 405, vi i1, vi i2, vi i3, vr 0, vr 0, vr 0] [vi i_0] V D Q := yat (c := xk_245) (hd := [2450183]) (dk := []) (dv := [2450146]) (nb := [2450055, 2450133, 2450164]) rfl h
set_option maxRecDepth 20000 in
theorem u_245_183 {d : Nat} {i1 i2 i3 i4 i5 : Int} {V : xF} {D : yD} {Q : xRes → xF → yD → Prop}
    (h : ((V 406 3) ≤ i5 → ∀ V1 : xF, V1 = up2 V 405 12 ((-1)) → ∀ V2 : xF, V2 = up2 V1 405 9 331 → (((1 : Int) ≤ (V2 406 1) → ∀ V3 : xF, V3 = up2 V2 405 10 (V2 406 2) → ∀ V4 : xF, V4 = up2 V3 405 11 0 → ∀ V5 : xF, V5 = up2 V4 405 13 0 → RY d 128 0 [vr 405, vi 1, vr 0, vr 0] [] V5 D (yback d 245 283 [vr 405, vi i1, vi i2, vi i3, vi i4, vi (V 405 12), vr 0] [] Q)) ∧ ((V2 406 1) < 1 → ∀ V6 : xF, V6 = up2 V2 405 10 0 → ∀ V7 : xF, V7 = up2 V6 405 11 0 → ∀ V8 : xF, V8 = up2 V7 405 13 0 → RY d 128 0 [vr 405, vi 1, vr 0, vr 0] [] V8 D (yback d 245 283 [vr 405, vi i1, vi i2, vi i3, vi i4, vi (V 405 12), vr 0] [] Q)))) ∧ (i5 < (V 406 3) → (((V 405 16) ≠ 0 → ∀ V9 : xF, V9 = up2 V 405 16 1 → RY d 245 183 [vr 405, vi i1, vi i2, vi i3, vi i4, vi (wr (i5 + 1)), vr 0] [] V9 D Q) ∧ ((V 405 16) = 0 → (yg_152 i2 i5 V D ∧ (((yr_152 i2 i5 V D) = 0 → ∀ V10 : xF, V10 = up2 V 405 16 0 → RY d 245 183 [vr 405, vi i1, vi i2, vi i3, vi i4, vi (wr (i5 + 1)), vr 0] [] V10 D Q) ∧ ((yr_152 i2 i5 V D) ≠ 0 → ∀ V11 : xF, V11 = up2 V 405 16 1 → RY d 245 183 [vr 405, vi i1, vi i2, vi i3, vi i4, vi (wr (i5 + 1)), vr 0] [] V11 D Q))))))) :
    RY d 245 183 [vr 405, vi i1, vi i2, vi i3, vi i4, vi i5, vr 0] [] V D Q := yat (c := xk_245) (hd := [2450183]) (dk := []) (dv := []) (nb := [2450191, 2450199, 2450209, 2450252]) rfl h
set_option maxRecDepth 20000 in
theorem u_245_283 {d : Nat} {i1 i2 i3 i4 i5 i_0 : Int} {V : xF} {D : yD} {Q : xRes → xF → yD → Prop}
    (h : ∀ V1 : xF, V1 = up2 V 405 12 i5 → Q (.inl none) V1 D) :
    RY d 245 283 [vr 405, vi i1, vi i2, vi i3, vi i4, vi i5, vr 0] [vi i_0] V D Q := yat (c := xk_245) (hd := [2450183]) (dk := []) (dv := []) (nb := []) rfl h
set_option maxRecDepth 20000 in
theorem u_246_0 {d : Nat} {i1 i2 : Int} {V : xF} {D : yD} {Q : xRes → xF → yD → Prop}
    (h : RY d 247 0 [vr 405, vi i1, vi i2, vr 0, vr 0, vr 0, vr 0] [] V D (yback d 246 6 [vr 405, vi i1, vi i2, vr 0, vr 0] [] Q)) :
    RY d 246 0 [vr 405, vi i1, vi i2, vr 0, vr 0] [] V D Q := yat (c := xk_246) (hd := [2460010]) (dk := []) (dv := []) (nb := []) rfl h
set_option maxRecDepth 20000 in
theorem u_246_6 {d : Nat} {i1 i2 i_0 : Int} {V : xF} {D : yD} {Q : xRes → xF → yD → Prop}
    (h : RY d 246 10 [vr 405, vi i1, vi i2, vi i_0, vi 0] [] V D Q) :
    RY d 246 6 [vr 405, vi i1, vi i2, vr 0, vr 0] [vi i_0] V D Q := yat (c := xk_246) (hd := [2460010]) (dk := []) (dv := []) (nb := []) rfl h
set_option maxRecDepth 20000 in
theorem u_246_10 {d : Nat} {i1 i2 i3 i4 : Int} {V : xF} {D : yD} {Q : xRes → xF → yD → Prop}
    (h : ((5 : Int) ≤ i4 → ((i3 ≠ i1 → Q (.inl (some (vi 0))) V D) ∧ (i3 = i1 → Q (.inl (some (vi 1))) V D))) ∧ (i4 < 5 → ((i3 = i1 → ((i3 ≠ i1 → Q (.inl (some (vi 0))) V D) ∧ (i3 = i1 → Q (.inl (some (vi 1))) V D))) ∧ (i3 ≠ i1 → RY d 247 0 [vr 405, vi i3, vi i2, vr 0, vr 0, vr 0, vr 0] [] V D (yback d 246 27 [vr 405, vi i1, vi i2, vi i3, vi i4] [] Q))))) :
    RY d 246 10 [vr 405, vi i1, vi i2, vi i3, vi i4] [] V D Q := yat (c := xk_246) (hd := [2460010]) (dk := []) (dv := []) (nb := [2460013, 2460018, 2460036]) rfl h
set_option maxRecDepth 20000 in
theorem u_246_27 {d : Nat} {i1 i2 i3 i4 i_0 : Int} {V : xF} {D : yD} {Q : xRes → xF → yD → Prop}
    (h : RY d 246 10 [vr 405, vi i1, vi i2, vi i_0, vi (wr (i4 + 1))] [] V D Q) :
    RY d 246 27 [vr 405, vi i1, vi i2, vi i3, vi i4] [vi i_0] V D Q := yat (c := xk_246) (hd := [2460010]) (dk := []) (dv := []) (nb := []) rfl h
set_option maxRecDepth 20000 in
theorem u_247_0 {d : Nat} {i1 i2 : Int} {V : xF} {D : yD} {Q : xRes → xF → yD → Prop}
    (h : RY d 247 8 [vr 405, vi i1, vi i2, vi ((-1)), vi 0, vi ((-1)), vr 0] [] V D Q) :
    RY d 247 0 [vr 405, vi i1, vi i2, vr 0, vr 0, vr 0, vr 0] [] V D Q := yat (c := xk_247) (hd := [2470008]) (dk := []) (dv := []) (nb := []) rfl h
set_option maxRecDepth 20000 in
theorem u_247_8 {d : Nat} {i1 i2 i3 i4 i5 : Int} {v6 : xV} {V : xF} {D : yD} {Q : xRes → xF → yD → Prop}
    (h : ((V 406 4) ≤ i5 → ((i3 ≠ ((-1)) → Q (.inl (some (vi i3))) V D) ∧ (i3 = ((-1)) → Q (.inl (some (vi i1))) V D))) ∧ (i5 < (V 406 4) → (((0 : Int) ≤ i5 → (((yr_198 i2 i5 V D) ≠ 0 → (yg_143 i5 2 V D ∧ RY d 245 0 [vr 405, vi i1, vi (yr_143 i5 2 V D), vr 0, vr 0, vr 0, vr 0] [] V D (yback d 247 56 [vr 405, vi i1, vi i2, vi i3, vi i4, vi i5, vi i5] [] Q))) ∧ ((yr_198 i2 i5 V D) = 0 → RY d 247 8 [vr 405, vi i1, vi i2, vi i3, vi i4, vi (wr (i5 + 1)), vi i5] [] V D Q))) ∧ (i5 < 0 → (((yr_198 i2 i1 V D) ≠ 0 → (yg_143 i1 2 V D ∧ RY d 245 0 [vr 405, vi i1, vi (yr_143 i1 2 V D), vr 0, vr 0, vr 0, vr 0] [] V D (yback d 247 56 [vr 405, vi i1, vi i2, vi i3, vi i4, vi i5, vi i1] [] Q))) ∧ ((yr_198 i2 i1 V D) = 0 → RY d 247 8 [vr 405, vi i1, vi i2, vi i3, vi i4, vi (wr (i5 + 1)), vi i1] [] V D Q)))))) :
    RY d 247 8 [vr 405, vi i1, vi i2, vi i3, vi i4, vi i5, v6] [] V D Q := yat (c := xk_247) (hd := [2470008]) (dk := []) (dv := []) (nb := [2470016, 2470021, 2470038, 2470097]) rfl h
set_option maxRecDepth 20000 in
theorem u_247_56 {d : Nat} {i1 i2 i3 i4 i5 i6 : Int} {V : xF} {D : yD} {Q : xRes → xF → yD → Prop}
    (h : ((V 405 18) ≠ 0 → RY d 247 8 [vr 405, vi i1, vi i2, vi i3, vi i4, vi (wr (i5 + 1)), vi i6] [] V D Q) ∧ ((V 405 18) = 0 → ((i3 = ((-1)) → RY d 247 8 [vr 405, vi i1, vi i2, vi i6, vi (V 405 17), vi (wr (i5 + 1)), vi i6] [] V D Q) ∧ (i3 ≠ ((-1)) → ((i4 < (V 405 17) → RY d 247 8 [vr 405, vi i1, vi i2, vi i6, vi (V 405 17), vi (wr (i5 + 1)), vi i6] [] V D Q) ∧ ((V 405 17) ≤ i4 → RY d 247 8 [vr 405, vi i1, vi i2, vi i3, vi i4, vi (wr (i5 + 1)), vi i6] [] V D Q)))))) :
    RY d 247 56 [vr 405, vi i1, vi i2, vi i3, vi i4, vi i5, vi i6] [] V D Q := yat (c := xk_247) (hd := [2470008]) (dk := []) (dv := []) (nb := [2470060, 2470065, 2470074]) rfl h
set_option maxRecDepth 20000 in
theorem u_248_0_81 {d : Nat} {i2 i3 i4 : Int} {V : xF} {D : yD} {Q : xRes → xF → yD → Prop}
    (h : RY d 319 0 [vr 390, vr 81, vi i2, vi i3, vi i4] [] V D (yback d 248 9 [vr 390, vr 81, vi i2, vi i3, vi i4, vr 0] [] Q)) :
    RY d 248 0 [vr 390, vr 81, vi i2, vi i3, vi i4, vr 0] [] V D Q := yat (c := xk_248) (hd := []) (dk := []) (dv := []) (nb := []) rfl h
set_option maxRecDepth 20000 in
theorem u_248_9_81 {d : Nat} {i2 i3 i4 : Int} {V : xF} {D : yD} {Q : xRes → xF → yD → Prop}
    (h : ((0 : Int) ≤ i3 ∧ i3 < (5 : Int)) ∧ ((0 : Int) ≤ i2 ∧ i2 < (5 : Int)) ∧ (yK D.2.2.1 81).1 = 10 ∧ D.2.1 81 ≠ 0 ∧ (yK D.2.2.1 (D.2.1 81)).1 = 3 ∧ RY d 320 0 [vr (D.2.1 81), vr 394, vr 0, vr 0] [] V D (yback d 248 44 [vr 390, vr 81, vi i2, vi i3, vi i4, vi (yr_292 0 (wr ((V 392 i3.toNat) - (V 88 i2.toNat))) V D)] [vi (wr ((20 : Int) - i4))] Q)) :
    RY d 248 9 [vr 390, vr 81, vi i2, vi i3, vi i4, vr 0] [] V D Q := yat (c := xk_248) (hd := []) (dk := [2480034, 2480041]) (dv := [2480015, 2480021]) (nb := []) rfl h
set_option maxRecDepth 20000 in
theorem u_248_44_81 {d : Nat} {i2 i3 i4 i5 i_0 i_1 : Int} {V : xF} {D : yD} {Q : xRes → xF → yD → Prop}
    (h : Q (.inl (some (vi (wr ((wr (i_0 + i_1)) - (wr ((5 : Int) * i5))))))) V D) :
    RY d 248 44 [vr 390, vr 81, vi i2, vi i3, vi i4, vi i5] [vi i_1, vi i_0] V D Q := yat (c := xk_248) (hd := []) (dk := []) (dv := []) (nb := []) rfl h
set_option maxRecDepth 20000 in
theorem u_248_0_92 {d : Nat} {i2 i3 i4 : Int} {V : xF} {D : yD} {Q : xRes → xF → yD → Prop}
    (h : RY d 319 0 [vr 390, vr 92, vi i2, vi i3, vi i4] [] V D (yback d 248 9 [vr 390, vr 92, vi i2, vi i3, vi i4, vr 0] [] Q)) :
    RY d 248 0 [vr 390, vr 92, vi i2, vi i3, vi i4, vr 0] [] V D Q := yat (c := xk_248) (hd := []) (dk := []) (dv := []) (nb := []) rfl h
set_option maxRecDepth 20000 in
theorem u_248_9_92 {d : Nat} {i2 i3 i4 : Int} {V : xF} {D : yD} {Q : xRes → xF → yD → Prop}
    (h : ((0 : Int) ≤ i3 ∧ i3 < (5 : Int)) ∧ ((0 : Int) ≤ i2 ∧ i2 < (5 : Int)) ∧ (yK D.2.2.1 92).1 = 10 ∧ D.2.1 92 ≠ 0 ∧ (yK D.2.2.1 (D.2.1 92)).1 = 3 ∧ RY d 320 0 [vr (D.2.1 92), vr 394, vr 0, vr 0] [] V D (yback d 248 44 [vr 390, vr 92, vi i2, vi i3, vi i4, vi (yr_292 0 (wr ((V 392 i3.toNat) - (V 99 i2.toNat))) V D)] [vi (wr ((20 : Int) - i4))] Q)) :
    RY d 248 9 [vr 390, vr 92, vi i2, vi i3, vi i4, vr 0] [] V D Q := yat (c := xk_248) (hd := []) (dk := [2480034, 2480041]) (dv := [2480015, 2480021]) (nb := []) rfl h
set_option maxRecDepth 20000 in
theorem u_248_44_92 {d : Nat} {i2 i3 i4 i5 i_0 i_1 : Int} {V : xF} {D : yD} {Q : xRes → xF → yD → Prop}
    (h : Q (.inl (some (vi (wr ((wr (i_0 + i_1)) - (wr ((5 : Int) * i5))))))) V D) :
    RY d 248 44 [vr 390, vr 92, vi i2, vi i3, vi i4, vi i5] [vi i_1, vi i_0] V D Q := yat (c := xk_248) (hd := []) (dk := []) (dv := []) (nb := []) rfl h
set_option maxRecDepth 20000 in
theorem u_249_0_81 {d : Nat} {i2 i3 i4 : Int} {V : xF} {D : yD} {Q : xRes → xF → yD → Prop}
    (h : ((0 : Int) ≤ i2 ∧ i2 < (5 : Int)) ∧ ((i4 ≤ (V 87 i2.toNat) → RY d 319 0 [vr 390, vr 81, vi i2, vi i3, vi i4] [] V D (yback d 249 22 [vr 390, vr 81, vi i2, vi i3, vi i4] [] Q)) ∧ ((V 87 i2.toNat) < i4 → Q (.inl (some (vi 1))) V D))) :
    RY d 249 0 [vr 390, vr 81, vi i2, vi i3, vi i4] [] V D Q := yat (c := xk_249) (hd := []) (dk := []) (dv := [2490007]) (nb := [2490008]) rfl h
set_option maxRecDepth 20000 in
theorem u_249_22_81 {d : Nat} {i2 i3 i4 : Int} {V : xF} {D : yD} {Q : xRes → xF → yD → Prop}
    (h : (yK D.2.2.1 81).1 = 10 ∧ D.2.1 81 ≠ 0 ∧ (yK D.2.2.1 (D.2.1 81)).1 = 3 ∧ RY d 321 0 [vr (D.2.1 81), vr 394, vr 0] [] V D (yback d 249 33 [vr 390, vr 81, vi i2, vi i3, vi i4] [] Q)) :
    RY d 249 22 [vr 390, vr 81, vi i2, vi i3, vi i4] [] V D Q := yat (c := xk_249) (hd := []) (dk := [2490023, 2490030]) (dv := []) (nb := []) rfl h
set_option maxRecDepth 20000 in
theorem u_249_33_81 {d : Nat} {i2 i3 i4 i_0 : Int} {V : xF} {D : yD} {Q : xRes → xF → yD → Prop}
    (h : (i_0 = 0 ∨ i_0 = 1) ∧ Q (.inl (some (vi i_0))) V D) :
    RY d 249 33 [vr 390, vr 81, vi i2, vi i3, vi i4] [vi i_0] V D Q := yat (c := xk_249) (hd := []) (dk := []) (dv := [2490033]) (nb := []) rfl h
set_option maxRecDepth 20000 in
theorem u_249_0_92 {d : Nat} {i2 i3 i4 : Int} {V : xF} {D : yD} {Q : xRes → xF → yD → Prop}
    (h : ((0 : Int) ≤ i2 ∧ i2 < (5 : Int)) ∧ ((i4 ≤ (V 98 i2.toNat) → RY d 319 0 [vr 390, vr 92, vi i2, vi i3, vi i4] [] V D (yback d 249 22 [vr 390, vr 92, vi i2, vi i3, vi i4] [] Q)) ∧ ((V 98 i2.toNat) < i4 → Q (.inl (some (vi 1))) V D))) :
    RY d 249 0 [vr 390, vr 92, vi i2, vi i3, vi i4] [] V D Q := yat (c := xk_249) (hd := []) (dk := []) (dv := [2490007]) (nb := [2490008]) rfl h
set_option maxRecDepth 20000 in
theorem u_249_22_92 {d : Nat} {i2 i3 i4 : Int} {V : xF} {D : yD} {Q : xRes → xF → yD → Prop}
    (h : (yK D.2.2.1 92).1 = 10 ∧ D.2.1 92 ≠ 0 ∧ (yK D.2.2.1 (D.2.1 92)).1 = 3 ∧ RY d 321 0 [vr (D.2.1 92), vr 394, vr 0] [] V D (yback d 249 33 [vr 390, vr 92, vi i2, vi i3, vi i4] [] Q)) :
    RY d 249 22 [vr 390, vr 92, vi i2, vi i3, vi i4] [] V D Q := yat (c := xk_249) (hd := []) (dk := [2490023, 2490030]) (dv := []) (nb := []) rfl h
set_option maxRecDepth 20000 in
theorem u_249_33_92 {d : Nat} {i2 i3 i4 i_0 : Int} {V : xF} {D : yD} {Q : xRes → xF → yD → Prop}
    (h : (i_0 = 0 ∨ i_0 = 1) ∧ Q (.inl (some (vi i_0))) V D) :
    RY d 249 33 [vr 390, vr 92, vi i2, vi i3, vi i4] [vi i_0] V D Q := yat (c := xk_249) (hd := []) (dk := []) (dv := [2490033]) (nb := []) rfl h
set_option maxRecDepth 20000 in
theorem u_250_0 {d : Nat} {i1 i2 : Int} {V : xF} {D : yD} {Q : xRes → xF → yD → Prop}
    (h : RY d 235 0 [vr 70, vi i1] [] V D (yback d 250 5 [vr 70, vi i1, vi i2] [] Q)) :
    RY d 250 0 [vr 70, vi i1, vi i2] [] V D Q := yat (c := xk_250) (hd := []) (dk := []) (dv := []) (nb := []) rfl h
set_option maxRecDepth 20000 in
theorem u_250_5 {d : Nat} {i1 i2 : Int} {V : xF} {D : yD} {Q : xRes → xF → yD → Prop}
    (h : RY d 235 0 [vr 70, vi i2] [] V D (yback d 250 10 [vr 70, vi i1, vi i2] [] Q)) :
    RY d 250 5 [vr 70, vi i1, vi i2] [] V D Q := yat (c := xk_250) (hd := []) (dk := []) (dv := []) (nb := []) rfl h
set_option maxRecDepth 20000 in
theorem u_250_10 {d : Nat} {i1 i2 : Int} {V : xF} {D : yD} {Q : xRes → xF → yD → Prop}
    (h : RY d 283 0 [vr 70, vi i1, vi i2] [] V D (yback d 250 16 [vr 70, vi i1, vi i2] [] Q)) :
    RY d 250 10 [vr 70, vi i1, vi i2] [] V D Q := yat (c := xk_250) (hd := []) (dk := []) (dv := []) (nb := []) rfl h
set_option maxRecDepth 20000 in
theorem u_250_16 {d : Nat} {i1 i2 : Int} {V : xF} {D : yD} {Q : xRes → xF → yD → Prop}
    (h : Q (.inl none) V D) :
    RY d 250 16 [vr 70, vi i1, vi i2] [] V D Q := yat (c := xk_250) (hd := []) (dk := []) (dv := []) (nb := []) rfl h
set_option maxRecDepth 20000 in
theorem u_252_0 {d : Nat} {i1 i2 i3 : Int} {V : xF} {D : yD} {Q : xRes → xF → yD → Prop}
    (h : RY d 264 0 [vr 70, vi i1, vi i2, vi i3] [] V D (yback d 252 7 [vr 70, vi i1, vi i2, vi i3] [] Q)) :
    RY d 252 0 [vr 70, vi i1, vi i2, vi i3] [] V D Q := yat (c := xk_252) (hd := []) (dk := []) (dv := []) (nb := []) rfl h
set_option maxRecDepth 20000 in
theorem u_252_7 {d : Nat} {i1 i2 i3 : Int} {V : xF} {D : yD} {Q : xRes → xF → yD → Prop}
    (h : RY d 212 0 [vr 254, vr 81, vi i1, vi (yr_265 i2 i3 V D), vr 253, vr 0, vr 0, vr 0] [] V D (yback d 252 28 [vr 70, vi i1, vi i2, vi i3] [] Q)) :
    RY d 252 7 [vr 70, vi i1, vi i2, vi i3] [] V D Q := yat (c := xk_252) (hd := []) (dk := []) (dv := []) (nb := []) rfl h
set_option maxRecDepth 20000 in
theorem u_252_28 {d : Nat} {i1 i2 i3 : Int} {V : xF} {D : yD} {Q : xRes → xF → yD → Prop}
    (h : Q (.inl none) V D) :
    RY d 252 28 [vr 70, vi i1, vi i2, vi i3] [] V D Q := yat (c := xk_252) (hd := []) (dk := []) (dv := []) (nb := []) rfl h
set_option maxRecDepth 20000 in
theorem u_253_0 {d : Nat} {i1 : Int} {V : xF} {D : yD} {Q : xRes → xF → yD → Prop}
    (h : RY d 253 4 [vr 253, vi i1, vi 0, vi 0] [] V D Q) :
    RY d 253 0 [vr 253, vi i1, vr 0, vr 0] [] V D Q := yat (c := xk_253) (hd := [2530004]) (dk := []) (dv := []) (nb := []) rfl h
set_option maxRecDepth 20000 in
theorem u_253_4 {d : Nat} {i1 i2 i3 : Int} {V : xF} {D : yD} {Q : xRes → xF → yD → Prop}
    (h : ((48 : Int) ≤ i3 → Q (.inl (some (vi ((-1))))) V D) ∧ (i3 < 48 → (((0 : Int) ≤ i3 ∧ i3 < (48 : Int)) ∧ (((V 253 i3.toNat) ≤ 0 → RY d 253 4 [vr 253, vi i1, vi i2, vi (wr (i3 + 1))] [] V D Q) ∧ ((0 : Int) < (V 253 i3.toNat) → ((i2 ≠ i1 → RY d 253 4 [vr 253, vi i1, vi (wr (i2 + 1)), vi (wr (i3 + 1))] [] V D Q) ∧ (i2 = i1 → Q (.inl (some (vi i3))) V D))))))) :
    RY d 253 4 [vr 253, vi i1, vi i2, vi i3] [] V D Q := yat (c := xk_253) (hd := [2530004]) (dk := []) (dv := [2530012]) (nb := [2530007, 2530013, 2530018]) rfl h
set_option maxRecDepth 20000 in
theorem u_254_0 {d : Nat} {i1 i2 i3 i4 i5 : Int} {V : xF} {D : yD} {Q : xRes → xF → yD → Prop}
    (h : yg_133 i1 0 V D ∧ (((i4.tmod 2) = 0 → RY d 254 26 [vr 405, vi i1, vi i2, vi i3, vi i4, vi i5, vi (yr_322 i4 (yr_133 i1 0 V D) i2 0 V D), vr 0, vr 0, vr 0, vr 0, vr 0, vr 0, vr 0] [] V D Q) ∧ ((i4.tmod 2) ≠ 0 → RY d 254 26 [vr 405, vi i1, vi i2, vi i3, vi i4, vi i5, vi (yr_322 i4 (yr_133 i1 0 V D) i2 1 V D), vr 0, vr 0, vr 0, vr 0, vr 0, vr 0, vr 0] [] V D Q))) :
    RY d 254 0 [vr 405, vi i1, vi i2, vi i3, vi i4, vi i5, vr 0, vr 0, vr 0, vr 0, vr 0, vr 0, vr 0, vr 0] [] V D Q := yat (c := xk_254) (hd := [2540026, 2540052, 2540067, 2540082, 2540102, 2540122, 2540192, 2540221, 2540244, 2540260, 2540266, 2540341]) (dk := []) (dv := []) (nb := [2540013]) rfl h
set_option maxRecDepth 20000 in
theorem u_254_26 {d : Nat} {i1 i2 i3 i4 i5 i6 : Int} {V : xF} {D : yD} {Q : xRes → xF → yD → Prop}
    (h : yg_133 i1 1 V D ∧ (((i5.tmod 2) = 0 → RY d 254 52 [vr 405, vi i1, vi i2, vi i3, vi i4, vi i5, vi i6, vi (yr_322 i5 (yr_133 i1 1 V D) i3 0 V D), vr 0, vr 0, vr 0, vr 0, vr 0, vr 0] [] V D Q) ∧ ((i5.tmod 2) ≠ 0 → RY d 254 52 [vr 405, vi i1, vi i2, vi i3, vi i4, vi i5, vi i6, vi (yr_322 i5 (yr_133 i1 1 V D) i3 1 V D), vr 0, vr 0, vr 0, vr 0, vr 0, vr 0] [] V D Q))) :
    RY d 254 26 [vr 405, vi i1, vi i2, vi i3, vi i4, vi i5, vi i6, vr 0, vr 0, vr 0, vr 0, vr 0, vr 0, vr 0] [] V D Q := yat (c := xk_254) (hd := [2540026, 2540052, 2540067, 2540082, 2540102, 2540122, 2540192, 2540221, 2540244, 2540260, 2540266, 2540341]) (dk := []) (dv := []) (nb := [2540039]) rfl h
set_option maxRecDepth 20000 in
theorem u_254_52 {d : Nat} {i1 i2 i3 i4 i5 i6 i7 : Int} {V : xF} {D : yD} {Q : xRes → xF → yD → Prop}
    (h : ((0 : Int) ≤ i4 → RY d 254 67 [vr 405, vi i1, vi i2, vi i3, vi i4, vi i5, vi i6, vi i7, vi i4, vr 0, vr 0, vr 0, vr 0, vr 0] [] V D Q) ∧ (i4 < 0 → RY d 254 67 [vr 405, vi i1, vi i2, vi i3, vi i4, vi i5, vi i6, vi i7, vi (wr (-i4)), vr 0, vr 0, vr 0, vr 0, vr 0] [] V D Q)) :
    RY d 254 52 [vr 405, vi i1, vi i2, vi i3, vi i4, vi i5, vi i6, vi i7, vr 0, vr 0, vr 0, vr 0, vr 0, vr 0] [] V D Q := yat (c := xk_254) (hd := [2540026, 2540052, 2540067, 2540082, 2540102, 2540122, 2540192, 2540221, 2540244, 2540260, 2540266, 2540341]) (dk := []) (dv := []) (nb := [2540054]) rfl h
set_option maxRecDepth 20000 in
theorem u_254_67 {d : Nat} {i1 i2 i3 i4 i5 i6 i7 i8 : Int} {V : xF} {D : yD} {Q : xRes → xF → yD → Prop}
    (h : ((0 : Int) ≤ i5 → RY d 254 82 [vr 405, vi i1, vi i2, vi i3, vi i4, vi i5, vi i6, vi i7, vi i8, vi i5, vr 0, vr 0, vr 0, vr 0] [] V D Q) ∧ (i5 < 0 → RY d 254 82 [vr 405, vi i1, vi i2, vi i3, vi i4, vi i5, vi i6, vi i7, vi i8, vi (wr (-i5)), vr 0, vr 0, vr 0, vr 0] [] V D Q)) :
    RY d 254 67 [vr 405, vi i1, vi i2, vi i3, vi i4, vi i5, vi i6, vi i7, vi i8, vr 0, vr 0, vr 0, vr 0, vr 0] [] V D Q := yat (c := xk_254) (hd := [2540026, 2540052, 2540067, 2540082, 2540102, 2540122, 2540192, 2540221, 2540244, 2540260, 2540266, 2540341]) (dk := []) (dv := []) (nb := [2540069]) rfl h
set_option maxRecDepth 20000 in
theorem u_254_82 {d : Nat} {i1 i2 i3 i4 i5 i6 i7 i8 i9 : Int} {V : xF} {D : yD} {Q : xRes → xF → yD → Prop}
    (h : ((0 : Int) ≤ i4 → RY d 254 102 [vr 405, vi i1, vi i2, vi i3, vi i4, vi i5, vi i6, vi i7, vi i8, vi i9, vi (wr (i8.tdiv 2)), vr 0, vr 0, vr 0] [] V D Q) ∧ (i4 < 0 → RY d 254 102 [vr 405, vi i1, vi i2, vi i3, vi i4, vi i5, vi i6, vi i7, vi i8, vi i9, vi (wr ((wr (i8 + 1)).tdiv 2)), vr 0, vr 0, vr 0] [] V D Q)) :
    RY d 254 82 [vr 405, vi i1, vi i2, vi i3, vi i4, vi i5, vi i6, vi i7, vi i8, vi i9, vr 0, vr 0, vr 0, vr 0] [] V D Q := yat (c := xk_254) (hd := [2540026, 2540052, 2540067, 2540082, 2540102, 2540122, 2540192, 2540221, 2540244, 2540260, 2540266, 2540341]) (dk := []) (dv := []) (nb := [2540084]) rfl h
set_option maxRecDepth 20000 in
theorem u_254_102 {d : Nat} {i1 i2 i3 i4 i5 i6 i7 i8 i9 i10 : Int} {V : xF} {D : yD} {Q : xRes → xF → yD → Prop}
    (h : ((0 : Int) ≤ i5 → RY d 254 122 [vr 405, vi i1, vi i2, vi i3, vi i4, vi i5, vi i6, vi i7, vi i8, vi i9, vi i10, vi (wr (i9.tdiv 2)), vr 0, vr 0] [] V D Q) ∧ (i5 < 0 → RY d 254 122 [vr 405, vi i1, vi i2, vi i3, vi i4, vi i5, vi i6, vi i7, vi i8, vi i9, vi i10, vi (wr ((wr (i9 + 1)).tdiv 2)), vr 0, vr 0] [] V D Q)) :
    RY d 254 102 [vr 405, vi i1, vi i2, vi i3, vi i4, vi i5, vi i6, vi i7, vi i8, vi i9, vi i10, vr 0, vr 0, vr 0] [] V D Q := yat (c := xk_254) (hd := [2540026, 2540052, 2540067, 2540082, 2540102, 2540122, 2540192, 2540221, 2540244, 2540260, 2540266, 2540341]) (dk := []) (dv := []) (nb := [2540104]) rfl h
set_option maxRecDepth 20000 in
theorem u_254_122 {d : Nat} {i1 i2 i3 i4 i5 i6 i7 i8 i9 i10 i11 : Int} {V : xF} {D : yD} {Q : xRes → xF → yD → Prop}
    (h : yg_133 i1 2 V D ∧ RY d 323 0 [vi 1000, vi (yr_133 i1 2 V D), vi i10, vr 0, vr 0] [] V D (yback d 254 136 [vr 405, vi i1, vi i2, vi i3, vi i4, vi i5, vi i6, vi i7, vi i8, vi i9, vi i10, vi i11, vr 0, vr 0] [] Q)) :
    RY d 254 122 [vr 405, vi i1, vi i2, vi i3, vi i4, vi i5, vi i6, vi i7, vi i8, vi i9, vi i10, vi i11, vr 0, vr 0] [] V D Q := yat (c := xk_254) (hd := [2540026, 2540052, 2540067, 2540082, 2540102, 2540122, 2540192, 2540221, 2540244, 2540260, 2540266, 2540341]) (dk := []) (dv := []) (nb := []) rfl h
set_option maxRecDepth 20000 in
theorem u_254_136 {d : Nat} {i1 i2 i3 i4 i5 i6 i7 i8 i9 i10 i11 i_0 : Int} {V : xF} {D : yD} {Q : xRes → xF → yD → Prop}
    (h : yg_133 i1 3 V D ∧ RY d 323 0 [vi i_0, vi (yr_133 i1 3 V D), vi (wr (i8 - i10)), vr 0, vr 0] [] V D (yback d 254 154 [vr 405, vi i1, vi i2, vi i3, vi i4, vi i5, vi i6, vi i7, vi i8, vi i9, vi i10, vi i11, vi i_0, vr 0] [] Q)) :
    RY d 254 136 [vr 405, vi i1, vi i2, vi i3, vi i4, vi i5, vi i6, vi i7, vi i8, vi i9, vi i10, vi i11, vr 0, vr 0] [vi i_0] V D Q := yat (c := xk_254) (hd := [2540026, 2540052, 2540067, 2540082, 2540102, 2540122, 2540192, 2540221, 2540244, 2540260, 2540266, 2540341]) (dk := []) (dv := []) (nb := []) rfl h
set_option maxRecDepth 20000 in
theorem u_254_154 {d : Nat} {i1 i2 i3 i4 i5 i6 i7 i8 i9 i10 i11 i12 i_0 : Int} {V : xF} {D : yD} {Q : xRes → xF → yD → Prop}
    (h : yg_133 i1 4 V D ∧ RY d 323 0 [vi i_0, vi (yr_133 i1 4 V D), vi i11, vr 0, vr 0] [] V D (yback d 254 169 [vr 405, vi i1, vi i2, vi i3, vi i4, vi i5, vi i6, vi i7, vi i8, vi i9, vi i10, vi i11, vi i_0, vr 0] [] Q)) :
    RY d 254 154 [vr 405, vi i1, vi i2, vi i3, vi i4, vi i5, vi i6, vi i7, vi i8, vi i9, vi i10, vi i11, vi i12, vr 0] [vi i_0] V D Q := yat (c := xk_254) (hd := [2540026, 2540052, 2540067, 2540082, 2540102, 2540122, 2540192, 2540221, 2540244, 2540260, 2540266, 2540341]) (dk := []) (dv := []) (nb := []) rfl h
set_option maxRecDepth 20000 in
theorem u_254_169 {d : Nat} {i1 i2 i3 i4 i5 i6 i7 i8 i9 i10 i11 i12 i_0 : Int} {V : xF} {D : yD} {Q : xRes → xF → yD → Prop}
    (h : yg_133 i1 5 V D ∧ RY d 323 0 [vi i_0, vi (yr_133 i1 5 V D), vi (wr (i9 - i11)), vr 0, vr 0] [] V D (yback d 254 187 [vr 405, vi i1, vi i2, vi i3, vi i4, vi i5, vi i6, vi i7, vi i8, vi i9, vi i10, vi i11, vi i_0, vr 0] [] Q)) :
    RY d 254 169 [vr 405, vi i1, vi i2, vi i3, vi i4, vi i5, vi i6, vi i7, vi i8, vi i9, vi i10, vi i11, vi i12, vr 0] [vi i_0] V D Q := yat (c := xk_254) (hd := [2540026, 2540052, 2540067, 2540082, 2540102, 2540122, 2540192, 2540221, 2540244, 2540260, 2540266, 2540341]) (dk := []) (dv := []) (nb := []) rfl h
set_option maxRecDepth 20000 in
theorem u_254_187 {d : Nat} {i1 i2 i3 i4 i5 i6 i7 i8 i9 i10 i11 i12 i_0 : Int} {V : xF} {D : yD} {Q : xRes → xF → yD → Prop}
    (h : RY d 254 192 [vr 405, vi i1, vi i2, vi i3, vi i4, vi i5, vi i6, vi i7, vi i8, vi i9, vi i10, vi i11, vi i_0, vi 0] [] V D Q) :
    RY d 254 187 [vr 405, vi i1, vi i2, vi i3, vi i4, vi i5, vi i6, vi i7, vi i8, vi i9, vi i10, vi i11, vi i12, vr 0] [vi i_0] V D Q := yat (c := xk_254) (hd := [2540026, 2540052, 2540067, 2540082, 2540102, 2540122, 2540192, 2540221, 2540244, 2540260, 2540266, 2540341]) (dk := []) (dv := []) (nb := []) rfl h
set_option maxRecDepth 20000 in
theorem u_254_192 {d : Nat} {i1 i2 i3 i4 i5 i6 i7 i8 i9 i10 i11 i12 i13 : Int} {V : xF} {D : yD} {Q : xRes → xF → yD → Prop}
    (h : ((wr ((wr (i6 * i6)) + (wr (i7 * i7)))) < (wr ((wr (i13 + 1)) * (wr (i13 + 1)))) → RY d 254 221 [vr 405, vi i1, vi i2, vi i3, vi i4, vi i5, vi i6, vi i7, vi i8, vi i9, vi i10, vi i11, vi i12, vi i13] [] V D Q) ∧ ((wr ((wr (i13 + 1)) * (wr (i13 + 1)))) ≤ (wr ((wr (i6 * i6)) + (wr (i7 * i7)))) → RY d 254 192 [vr 405, vi i1, vi i2, vi i3, vi i4, vi i5, vi i6, vi i7, vi i8, vi i9, vi i10, vi i11, vi i12, vi (wr (i13 + 1))] [] V D Q)) :
    RY d 254 192 [vr 405, vi i1, vi i2, vi i3, vi i4, vi i5, vi i6, vi i7, vi i8, vi i9, vi i10, vi i11, vi i12, vi i13] [] V D Q := yat (c := xk_254) (hd := [2540026, 2540052, 2540067, 2540082, 2540102, 2540122, 2540192, 2540221, 2540244, 2540260, 2540266, 2540341]) (dk := []) (dv := []) (nb := [2540212]) rfl h
set_option maxRecDepth 20000 in
theorem u_254_221 {d : Nat} {i1 i2 i3 i4 i5 i6 i7 i8 i9 i10 i11 i12 i13 : Int} {V : xF} {D : yD} {Q : xRes → xF → yD → Prop}
    (h : i13 ≠ 0 ∧ (((V 406 9) ≠ 1 → RY d 254 244 [vr 405, vi i1, vi i2, vi i3, vi i4, vi i5, vi i6, vi i7, vi i8, vi i9, vi i10, vi i11, vi (wr (i12.tdiv i13)), vi i13] [] V D Q) ∧ ((V 406 9) = 1 → ((i6 < 0 → RY d 254 260 [vr 405, vi i1, vi i2, vi i3, vi i4, vi i5, vi i6, vi i7, vi i8, vi i9, vi i10, vi i11, vi (wr (i12.tdiv i13)), vi i13] [] V D Q) ∧ ((0 : Int) ≤ i6 → RY d 254 244 [vr 405, vi i1, vi i2, vi i3, vi i4, vi i5, vi i6, vi i7, vi i8, vi i9, vi i10, vi i11, vi (wr (i12.tdiv i13)), vi i13] [] V D Q))))) :
    RY d 254 221 [vr 405, vi i1, vi i2, vi i3, vi i4, vi i5, vi i6, vi i7, vi i8, vi i9, vi i10, vi i11, vi i12, vi i13] [] V D Q := yat (c := xk_254) (hd := [2540026, 2540052, 2540067, 2540082, 2540102, 2540122, 2540192, 2540221, 2540244, 2540260, 2540266, 2540341]) (dk := []) (dv := [2540225]) (nb := [2540236, 2540241]) rfl h
set_option maxRecDepth 20000 in
theorem u_254_244 {d : Nat} {i1 i2 i3 i4 i5 i6 i7 i8 i9 i10 i11 i12 i13 : Int} {V : xF} {D : yD} {Q : xRes → xF → yD → Prop}
    (h : ((V 406 9) ≠ 2 → RY d 254 266 [vr 405, vi i1, vi i2, vi i3, vi i4, vi i5, vi i6, vi i7, vi i8, vi i9, vi i10, vi i11, vi i12, vi i13] [] V D Q) ∧ ((V 406 9) = 2 → ((i6 ≤ 0 → RY d 254 266 [vr 405, vi i1, vi i2, vi i3, vi i4, vi i5, vi i6, vi i7, vi i8, vi i9, vi i10, vi i11, vi i12, vi i13] [] V D Q) ∧ ((0 : Int) < i6 → RY d 254 260 [vr 405, vi i1, vi i2, vi i3, vi i4, vi i5, vi i6, vi i7, vi i8, vi i9, vi i10, vi i11, vi i12, vi i13] [] V D Q)))) :
    RY d 254 244 [vr 405, vi i1, vi i2, vi i3, vi i4, vi i5, vi i6, vi i7, vi i8, vi i9, vi i10, vi i11, vi i12, vi i13] [] V D Q := yat (c := xk_254) (hd := [2540026, 2540052, 2540067, 2540082, 2540102, 2540122, 2540192, 2540221, 2540244, 2540260, 2540266, 2540341]) (dk := []) (dv := []) (nb := [2540252, 2540257]) rfl h
set_option maxRecDepth 20000 in
theorem u_254_260 {d : Nat} {i1 i2 i3 i4 i5 i6 i7 i8 i9 i10 i11 i12 i13 : Int} {V : xF} {D : yD} {Q : xRes → xF → yD → Prop}
    (h : RY d 254 266 [vr 405, vi i1, vi i2, vi i3, vi i4, vi i5, vi i6, vi i7, vi i8, vi i9, vi i10, vi i11, vi (wr (i12.tdiv 2)), vi i13] [] V D Q) :
    RY d 254 260 [vr 405, vi i1, vi i2, vi i3, vi i4, vi i5, vi i6, vi i7, vi i8, vi i9, vi i10, vi i11, vi i12, vi i13] [] V D Q := yat (c := xk_254) (hd := [2540026, 2540052, 2540067, 2540082, 2540102, 2540122, 2540192, 2540221, 2540244, 2540260, 2540266, 2540341]) (dk := []) (dv := []) (nb := []) rfl h
set_option maxRecDepth 20000 in
theorem u_254_266 {d : Nat} {i1 i2 i3 i4 i5 i6 i7 i8 i9 i10 i11 i12 i13 : Int} {V : xF} {D : yD} {Q : xRes → xF → yD → Prop}
    (h : ((0 : Int) ≤ i13 ∧ i13 < (64 : Int)) ∧ ((0 : Int) ≤ i13 ∧ i13 < (64 : Int)) ∧ (∀ V1 : xF, V1 = up2 V 412 i13.toNat (wr ((V 412 i13.toNat) + i12)) → ((i12 ≤ 0 → RY d 254 341 [vr 405, vi i1, vi i2, vi i3, vi i4, vi i5, vi i6, vi i7, vi i8, vi i9, vi i10, vi i11, vi i12, vi i13] [] V1 D Q) ∧ ((0 : Int) < i12 → (((0 : Int) ≤ i13 ∧ i13 < (64 : Int)) ∧ ((i10 ≤ 0 → ((i8 ≤ i10 → ((i11 ≤ 0 → ((i9 ≤ i11 → (((0 : Int) ≤ i13 ∧ i13 < (64 : Int)) ∧ (∀ V2 : xF, V2 = up2 V1 413 i13.toNat (xor_ (V1 413 i13.toNat) (xor_ (xor_ (xor_ 0 0) 0) 0)) → RY d 254 341 [vr 405, vi i1, vi i2, vi i3, vi i4, vi i5, vi i6, vi i7, vi i8, vi i9, vi i10, vi i11, vi i12, vi i13] [] V2 D Q))) ∧ (i11 < i9 → (((0 : Int) ≤ i13 ∧ i13 < (64 : Int)) ∧ (∀ V3 : xF, V3 = up2 V1 413 i13.toNat (xor_ (V1 413 i13.toNat) (xor_ (xor_ (xor_ 0 0) 0) 8)) → RY d 254 341 [vr 405, vi i1, vi i2, vi i3, vi i4, vi i5, vi i6, vi i7, vi i8, vi i9, vi i10, vi i11, vi i12, vi i13] [] V3 D Q))))) ∧ ((0 : Int) < i11 → ((i9 ≤ i11 → (((0 : Int) ≤ i13 ∧ i13 < (64 : Int)) ∧ (∀ V4 : xF, V4 = up2 V1 413 i13.toNat (xor_ (V1 413 i13.toNat) (xor_ (xor_ (xor_ 0 0) 4) 0)) → RY d 254 341 [vr 405, vi i1, vi i2, vi i3, vi i4, vi i5, vi i6, vi i7, vi i8, vi i9, vi i10, vi i11, vi i12, vi i13] [] V4 D Q))) ∧ (i11 < i9 → (((0 : Int) ≤ i13 ∧ i13 < (64 : Int)) ∧ (∀ V5 : xF, V5 = up2 V1 413 i13.toNat (xor_ (V1 413 i13.toNat) (xor_ (xor_ (xor_ 0 0) 4) 8)) → RY d 254 341 [vr 405, vi i1, vi i2, vi i3, vi i4, vi i5, vi i6, vi i7, vi i8, vi i9, vi i10, vi i11, vi i12, vi i13] [] V5 D Q))))))) ∧ (i10 < i8 → ((i11 ≤ 0 → ((i9 ≤ i11 → (((0 : Int) ≤ i13 ∧ i13 < (64 : Int)) ∧ (∀ V6 : xF, V6 = up2 V1 413 i13.toNat (xor_ (V1 413 i13.toNat) (xor_ (xor_ (xor_ 0 2) 0) 0)) → RY d 254 341 [vr 405, vi i1, vi i2, vi i3, vi i4, vi i5, vi i6, vi i7, vi i8, vi i9, vi i10, vi i11, vi i12, vi i13] [] V6 D Q))) ∧ (i11 < i9 → (((0 : Int) ≤ i13 ∧ i13 < (64 : Int)) ∧ (∀ V7 : xF, V7 = up2 V1 413 i13.toNat (xor_ (V1 413 i13.toNat) (xor_ (xor_ (xor_ 0 2) 0) 8)) → RY d 254 341 [vr 405, vi i1, vi i2, vi i3, vi i4, vi i5, vi i6, vi i7, vi i8, vi i9, vi i10, vi i11, vi i12, vi i13] [] V7 D Q))))) ∧ ((0 : Int) < i11 → ((i9 ≤ i11 → (((0 : Int) ≤ i13 ∧ i13 < (64 : Int)) ∧ (∀ V8 : xF, V8 = up2 V1 413 i13.toNat (xor_ (V1 413 i13.toNat) (xor_ (xor_ (xor_ 0 2) 4) 0)) → RY d 254 341 [vr 405, vi i1, vi i2, vi i3, vi i4, vi i5, vi i6, vi i7, vi i8, vi i9, vi i10, vi i11, vi i12, vi i13] [] V8 D Q))) ∧ (i11 < i9 → (((0 : Int) ≤ i13 ∧ i13 < (64 : Int)) ∧ (∀ V9 : xF, V9 = up2 V1 413 i13.toNat (xor_ (V1 413 i13.toNat) (xor_ (xor_ (xor_ 0 2) 4) 8)) → RY d 254 341 [vr 405, vi i1, vi i2, vi i3, vi i4, vi i5, vi i6, vi i7, vi i8, vi i9, vi i10, vi i11, vi i12, vi i13] [] V9 D Q))))))))) ∧ ((0 : Int) < i10 → ((i8 ≤ i10 → ((i11 ≤ 0 → ((i9 ≤ i11 → (((0 : Int) ≤ i13 ∧ i13 < (64 : Int)) ∧ (∀ V10 : xF, V10 = up2 V1 413 i13.toNat (xor_ (V1 413 i13.toNat) (xor_ (xor_ (xor_ 1 0) 0) 0)) → RY d 254 341 [vr 405, vi i1, vi i2, vi i3, vi i4, vi i5, vi i6, vi i7, vi i8, vi i9, vi i10, vi i11, vi i12, vi i13] [] V10 D Q))) ∧ (i11 < i9 → (((0 : Int) ≤ i13 ∧ i13 < (64 : Int)) ∧ (∀ V11 : xF, V11 = up2 V1 413 i13.toNat (xor_ (V1 413 i13.toNat) (xor_ (xor_ (xor_ 1 0) 0) 8)) → RY d 254 341 [vr 405, vi i1, vi i2, vi i3, vi i4, vi i5, vi i6, vi i7, vi i8, vi i9, vi i10, vi i11, vi i12, vi i13] [] V11 D Q))))) ∧ ((0 : Int) < i11 → ((i9 ≤ i11 → (((0 : Int) ≤ i13 ∧ i13 < (64 : Int)) ∧ (∀ V12 : xF, V12 = up2 V1 413 i13.toNat (xor_ (V1 413 i13.toNat) (xor_ (xor_ (xor_ 1 0) 4) 0)) → RY d 254 341 [vr 405, vi i1, vi i2, vi i3, vi i4, vi i5, vi i6, vi i7, vi i8, vi i9, vi i10, vi i11, vi i12, vi i13] [] V12 D Q))) ∧ (i11 < i9 → (((0 : Int) ≤ i13 ∧ i13 < (64 : Int)) ∧ (∀ V13 : xF, V13 = up2 V1 413 i13.toNat (xor_ (V1 413 i13.toNat) (xor_ (xor_ (xor_ 1 0) 4) 8)) → RY d 254 341 [vr 405, vi i1, vi i2, vi i3, vi i4, vi i5, vi i6, vi i7, vi i8, vi i9, vi i10, vi i11, vi i12, vi i13] [] V13 D Q))))))) ∧ (i10 < i8 → ((i11 ≤ 0 → ((i9 ≤ i11 → (((0 : Int) ≤ i13 ∧ i13 < (64 : Int)) ∧ (∀ V14 : xF, V14 = up2 V1 413 i13.toNat (xor_ (V1 413 i13.toNat) (xor_ (xor_ (xor_ 1 2) 0) 0)) → RY d 254 341 [vr 405, vi i1, vi i2, vi i3, vi i4, vi i5, vi i6, vi i7, vi i8, vi i9, vi i10, vi i11, vi i12, vi i13] [] V14 D Q))) ∧ (i11 < i9 → (((0 : Int) ≤ i13 ∧ i13 < (64 : Int)) ∧ (∀ V15 : xF, V15 = up2 V1 413 i13.toNat (xor_ (V1 413 i13.toNat) (xor_ (xor_ (xor_ 1 2) 0) 8)) → RY d 254 341 [vr 405, vi i1, vi i2, vi i3, vi i4, vi i5, vi i6, vi i7, vi i8, vi i9, vi i10, vi i11, vi i12, vi i13] [] V15 D Q))))) ∧ ((0 : Int) < i11 → ((i9 ≤ i11 → (((0 : Int) ≤ i13 ∧ i13 < (64 : Int)) ∧ (∀ V16 : xF, V16 = up2 V1 413 i13.toNat (xor_ (V1 413 i13.toNat) (xor_ (xor_ (xor_ 1 2) 4) 0)) → RY d 254 341 [vr 405, vi i1, vi i2, vi i3, vi i4, vi i5, vi i6, vi i7, vi i8, vi i9, vi i10, vi i11, vi i12, vi i13] [] V16 D Q))) ∧ (i11 < i9 → (((0 : Int) ≤ i13 ∧ i13 < (64 : Int)) ∧ (∀ V17 : xF, V17 = up2 V1 413 i13.toNat (xor_ (V1 413 i13.toNat) (xor_ (xor_ (xor_ 1 2) 4) 8)) → RY d 254 341 [vr 405, vi i1, vi i2, vi i3, vi i4, vi i5, vi i6, vi i7, vi i8, vi i9, vi i10, vi i11, vi i12, vi i13] [] V17 D Q))))))))))))))) :
    RY d 254 266 [vr 405, vi i1, vi i2, vi i3, vi i4, vi i5, vi i6, vi i7, vi i8, vi i9, vi i10, vi i11, vi i12, vi i13] [] V D Q := yat (c := xk_254) (hd := [2540026, 2540052, 2540067, 2540082, 2540102, 2540122, 2540192, 2540221, 2540244, 2540260, 2540266, 2540341]) (dk := []) (dv := [2540273, 2540277, 2540290, 2540340]) (nb := [2540280, 2540293, 2540305, 2540316, 2540329]) rfl h
set_option maxRecDepth 20000 in
theorem u_254_341 {d : Nat} {i1 i2 i3 i4 i5 i6 i7 i8 i9 i10 i11 i12 i13 : Int} {V : xF} {D : yD} {Q : xRes → xF → yD → Prop}
    (h : Q (.inl none) V D) :
    RY d 254 341 [vr 405, vi i1, vi i2, vi i3, vi i4, vi i5, vi i6, vi i7, vi i8, vi i9, vi i10, vi i11, vi i12, vi i13] [] V D Q := yat (c := xk_254) (hd := [2540026, 2540052, 2540067, 2540082, 2540102, 2540122, 2540192, 2540221, 2540244, 2540260, 2540266, 2540341]) (dk := []) (dv := []) (nb := []) rfl h
set_option maxRecDepth 20000 in
theorem u_255_0 {d : Nat} {i1 i2 i3 : Int} {V : xF} {D : yD} {Q : xRes → xF → yD → Prop}
    (h : (i1 < i2 → Q (.inr 0) V (D.1, D.2.1, D.2.2.1, D.2.2.2.1, D.2.2.2.2.1 + 1, D.2.2.2.2.2 + 6)) ∧ (i2 ≤ i1 → ((i1 ≤ i3 → Q (.inl none) V D) ∧ (i3 < i1 → Q (.inr 0) V (D.1, D.2.1, D.2.2.1, D.2.2.2.1, D.2.2.2.2.1 + 1, D.2.2.2.2.2 + 6))))) :
    RY d 255 0 [vr 70, vi i1, vi i2, vi i3] [] V D Q := yat (c := xk_255) (hd := []) (dk := []) (dv := []) (nb := [2550002, 2550007]) rfl h
set_option maxRecDepth 20000 in
theorem u_256_0 {d : Nat} {V : xF} {D : yD} {Q : xRes → xF → yD → Prop}
    (h : (24 ≤ (yK D.2.2.1 114).1 ∧ (yK D.2.2.1 114).1 ≤ 25) ∧ ((0 : Int) ≤ V 70 7 ∧ V 70 7 < (12 : Int)) ∧ yR D.2.1 D.2.2.1 114 ((V 70 7).toNat) ≠ 0 ∧ (∀ q1 : Nat, q1 = yR D.2.1 D.2.2.1 114 ((V 70 7).toNat) → ((yK D.2.2.1 q1).1 = 10 ∧ RY d 224 0 [vr q1, vr 81] [] V D (yback d 256 16 [vr 70] [] Q)))) :
    RY d 256 0 [vr 70] [] V D Q := yat (c := xk_256) (hd := []) (dk := [2560008, 2560013]) (dv := [2560008]) (nb := []) rfl h
set_option maxRecDepth 20000 in
theorem u_256_16 {d : Nat} {V : xF} {D : yD} {Q : xRes → xF → yD → Prop}
    (h : ((V 70 7) ≠ 11 → ∀ V1 : xF, V1 = up2 V 70 7 (wr ((V 70 7) + 1)) → ∀ V2 : xF, V2 = up2 V1 70 8 (yr_291 (wr ((V1 70 8) + 1)) 12 V1 D) → Q (.inl none) V2 D) ∧ ((V 70 7) = 11 → ∀ V3 : xF, V3 = up2 V 70 7 0 → ∀ V4 : xF, V4 = up2 V3 70 8 (yr_291 (wr ((V3 70 8) + 1)) 12 V3 D) → Q (.inl none) V4 D)) :
    RY d 256 16 [vr 70] [] V D Q := yat (c := xk_256) (hd := []) (dk := []) (dv := []) (nb := [2560023]) rfl h
set_option maxRecDepth 20000 in
theorem u_257_0_81 {d : Nat} {i2 i3 : Int} {V : xF} {D : yD} {Q : xRes → xF → yD → Prop}
    (h : RY d 204 0 [vr 390, vr 81, vr 0, vr 0] [] V D (yback d 257 8 [vr 404, vr 81, vi i2, vi i3, vr 0, vr 0] [] Q)) :
    RY d 257 0 [vr 404, vr 81, vi i2, vi i3, vr 0, vr 0] [] V D Q := yat (c := xk_257) (hd := [2570011, 2570039]) (dk := []) (dv := []) (nb := []) rfl h
set_option maxRecDepth 20000 in
theorem u_257_8_81 {d : Nat} {i2 i3 : Int} {V : xF} {D : yD} {Q : xRes → xF → yD → Prop}
    (h : RY d 257 11 [vr 404, vr 81, vi i2, vi i3, vi 0, vr 0] [] V D Q) :
    RY d 257 8 [vr 404, vr 81, vi i2, vi i3, vr 0, vr 0] [] V D Q := yat (c := xk_257) (hd := [2570011, 2570039]) (dk := []) (dv := []) (nb := []) rfl h
set_option maxRecDepth 20000 in
theorem u_257_11_81 {d : Nat} {i2 i3 i4 : Int} {v5 : xV} {V : xF} {D : yD} {Q : xRes → xF → yD → Prop}
    (h : (i2 ≤ i4 → Q (.inl none) V D) ∧ (i4 < i2 → ((i3 = 0 → RY d 257 39 [vr 404, vr 81, vi i2, vi i3, vi i4, vi 0] [] V D Q) ∧ (i3 ≠ 0 → RY d 324 0 [vr 81, vr 0, vr 0, vr 0] [] V D (yback d 257 25 [vr 404, vr 81, vi i2, vi i3, vi i4, v5] [] Q))))) :
    RY d 257 11 [vr 404, vr 81, vi i2, vi i3, vi i4, v5] [] V D Q := yat (c := xk_257) (hd := [2570011, 2570039]) (dk := []) (dv := []) (nb := [2570014, 2570018]) rfl h
set_option maxRecDepth 20000 in
theorem u_257_25_81 {d : Nat} {i2 i3 i4 i_0 : Int} {v5 : xV} {V : xF} {D : yD} {Q : xRes → xF → yD → Prop}
    (h : (i_0 = 0 → RY d 257 39 [vr 404, vr 81, vi i2, vi i3, vi i4, vi 0] [] V D Q) ∧ (i_0 ≠ 0 → RY d 204 0 [vr 390, vr 81, vr 0, vr 0] [] V D (yback d 257 36 [vr 404, vr 81, vi i2, vi i3, vi i4, v5] [] Q))) :
    RY d 257 25 [vr 404, vr 81, vi i2, vi i3, vi i4, v5] [vi i_0] V D Q := yat (c := xk_257) (hd := [2570011, 2570039]) (dk := []) (dv := []) (nb := [2570025]) rfl h
set_option maxRecDepth 20000 in
theorem u_257_36_81 {d : Nat} {i2 i3 i4 : Int} {v5 : xV} {V : xF} {D : yD} {Q : xRes → xF → yD → Prop}
    (h : RY d 257 39 [vr 404, vr 81, vi i2, vi i3, vi i4, vi 0] [] V D Q) :
    RY d 257 36 [vr 404, vr 81, vi i2, vi i3, vi i4, v5] [] V D Q := yat (c := xk_257) (hd := [2570011, 2570039]) (dk := []) (dv := []) (nb := []) rfl h
set_option maxRecDepth 20000 in
theorem u_257_39_81 {d : Nat} {i2 i3 i4 i5 : Int} {V : xF} {D : yD} {Q : xRes → xF → yD → Prop}
    (h : ((V 81 6) ≤ i5 → ∀ V1 : xF, V1 = up2 V 81 18 (yr_291 (wr ((V 81 18) + 1)) 9999 V D) → RY d 257 11 [vr 404, vr 81, vi i2, vi i3, vi (wr (i4 + 1)), vi i5] [] V1 D Q) ∧ (i5 < (V 81 6) → RY d 325 0 [vr 390, vr 81, vi i5, vr 0, vr 0] [] V D (yback d 257 58 [vr 404, vr 81, vi i2, vi i3, vi i4, vi i5] [] Q))) :
    RY d 257 39 [vr 404, vr 81, vi i2, vi i3, vi i4, vi i5] [] V D Q := yat (c := xk_257) (hd := [2570011, 2570039]) (dk := []) (dv := []) (nb := [2570045]) rfl h
set_option maxRecDepth 20000 in
theorem u_257_58_81 {d : Nat} {i2 i3 i4 i5 : Int} {V : xF} {D : yD} {Q : xRes → xF → yD → Prop}
    (h : RY d 257 39 [vr 404, vr 81, vi i2, vi i3, vi i4, vi (wr (i5 + 1))] [] V D Q) :
    RY d 257 58 [vr 404, vr 81, vi i2, vi i3, vi i4, vi i5] [] V D Q := yat (c := xk_257) (hd := [2570011, 2570039]) (dk := []) (dv := []) (nb := []) rfl h
set_option maxRecDepth 20000 in
theorem u_257_0_92 {d : Nat} {i2 i3 : Int} {V : xF} {D : yD} {Q : xRes → xF → yD → Prop}
    (h : RY d 204 0 [vr 390, vr 92, vr 0, vr 0] [] V D (yback d 257 8 [vr 404, vr 92, vi i2, vi i3, vr 0, vr 0] [] Q)) :
    RY d 257 0 [vr 404, vr 92, vi i2, vi i3, vr 0, vr 0] [] V D Q := yat (c := xk_257) (hd := [2570011, 2570039]) (dk := []) (dv := []) (nb := []) rfl h
set_option maxRecDepth 20000 in
theorem u_257_8_92 {d : Nat} {i2 i3 : Int} {V : xF} {D : yD} {Q : xRes → xF → yD → Prop}
    (h : RY d 257 11 [vr 404, vr 92, vi i2, vi i3, vi 0, vr 0] [] V D Q) :
    RY d 257 8 [vr 404, vr 92, vi i2, vi i3, vr 0, vr 0] [] V D Q := yat (c := xk_257) (hd := [2570011, 2570039]) (dk := []) (dv := []) (nb := []) rfl h
set_option maxRecDepth 20000 in
theorem u_257_11_92 {d : Nat} {i2 i3 i4 : Int} {v5 : xV} {V : xF} {D : yD} {Q : xRes → xF → yD → Prop}
    (h : (i2 ≤ i4 → Q (.inl none) V D) ∧ (i4 < i2 → ((i3 = 0 → RY d 257 39 [vr 404, vr 92, vi i2, vi i3, vi i4, vi 0] [] V D Q) ∧ (i3 ≠ 0 → RY d 324 0 [vr 92, vr 0, vr 0, vr 0] [] V D (yback d 257 25 [vr 404, vr 92, vi i2, vi i3, vi i4, v5] [] Q))))) :
    RY d 257 11 [vr 404, vr 92, vi i2, vi i3, vi i4, v5] [] V D Q := yat (c := xk_257) (hd := [2570011, 2570039]) (dk := []) (dv := []) (nb := [2570014, 2570018]) rfl h
set_option maxRecDepth 20000 in
theorem u_257_25_92 {d : Nat} {i2 i3 i4 i_0 : Int} {v5 : xV} {V : xF} {D : yD} {Q : xRes → xF → yD → Prop}
    (h : (i_0 = 0 → RY d 257 39 [vr 404, vr 92, vi i2, vi i3, vi i4, vi 0] [] V D Q) ∧ (i_0 ≠ 0 → RY d 204 0 [vr 390, vr 92, vr 0, vr 0] [] V D (yback d 257 36 [vr 404, vr 92, vi i2, vi i3, vi i4, v5] [] Q))) :
    RY d 257 25 [vr 404, vr 92, vi i2, vi i3, vi i4, v5] [vi i_0] V D Q := yat (c := xk_257) (hd := [2570011, 2570039]) (dk := []) (dv := []) (nb := [2570025]) rfl h
set_option maxRecDepth 20000 in
theorem u_257_36_92 {d : Nat} {i2 i3 i4 : Int} {v5 : xV} {V : xF} {D : yD} {Q : xRes → xF → yD → Prop}
    (h : RY d 257 39 [vr 404, vr 92, vi i2, vi i3, vi i4, vi 0] [] V D Q) :
    RY d 257 36 [vr 404, vr 92, vi i2, vi i3, vi i4, v5] [] V D Q := yat (c := xk_257) (hd := [2570011, 2570039]) (dk := []) (dv := []) (nb := []) rfl h
set_option maxRecDepth 20000 in
theorem u_257_39_92 {d : Nat} {i2 i3 i4 i5 : Int} {V : xF} {D : yD} {Q : xRes → xF → yD → Prop}
    (h : ((V 92 6) ≤ i5 → ∀ V1 : xF, V1 = up2 V 92 18 (yr_291 (wr ((V 92 18) + 1)) 9999 V D) → RY d 257 11 [vr 404, vr 92, vi i2, vi i3, vi (wr (i4 + 1)), vi i5] [] V1 D Q) ∧ (i5 < (V 92 6) → RY d 325 0 [vr 390, vr 92, vi i5, vr 0, vr 0] [] V D (yback d 257 58 [vr 404, vr 92, vi i2, vi i3, vi i4, vi i5] [] Q))) :
    RY d 257 39 [vr 404, vr 92, vi i2, vi i3, vi i4, vi i5] [] V D Q := yat (c := xk_257) (hd := [2570011, 2570039]) (dk := []) (dv := []) (nb := [2570045]) rfl h
set_option maxRecDepth 20000 in
theorem u_257_58_92 {d : Nat} {i2 i3 i4 i5 : Int} {V : xF} {D : yD} {Q : xRes → xF → yD → Prop}
    (h : RY d 257 39 [vr 404, vr 92, vi i2, vi i3, vi i4, vi (wr (i5 + 1))] [] V D Q) :
    RY d 257 58 [vr 404, vr 92, vi i2, vi i3, vi i4, vi i5] [] V D Q := yat (c := xk_257) (hd := [2570011, 2570039]) (dk := []) (dv := []) (nb := []) rfl h
set_option maxRecDepth 20000 in
theorem u_259_0 {d : Nat} {i1 : Int} {V : xF} {D : yD} {Q : xRes → xF → yD → Prop}
    (h : RY d 259 2 [vr 405, vi i1, vi 0] [] V D Q) :
    RY d 259 0 [vr 405, vi i1, vr 0] [] V D Q := yat (c := xk_259) (hd := [2590002, 2590029]) (dk := []) (dv := []) (nb := []) rfl h
set_option maxRecDepth 20000 in
theorem u_259_2 {d : Nat} {i1 i2 : Int} {V : xF} {D : yD} {Q : xRes → xF → yD → Prop}
    (h : ((V 406 3) ≤ i2 → RY d 259 29 [vr 405, vi i1, vi 0] [] V D Q) ∧ (i2 < (V 406 3) → ((i1 = 0 → RY d 259 29 [vr 405, vi i1, vi 0] [] V D Q) ∧ (i1 ≠ 0 → ∀ V1 : xF, V1 = up2 V 406 15 (wr ((wr ((1103515245 : Int) * (V 406 15))) + 12345)) → ((((xand (xushr (V1 406 15) 16) 32767).tmod 100) < (V1 406 11) → ∀ V2 : xF, V2 = up2 V1 406 15 (wr ((wr ((1103515245 : Int) * (V1 406 15))) + 12345)) → ∀ V3 : xF, V3 = up2 V2 406 15 (wr ((wr ((1103515245 : Int) * (V2 406 15))) + 12345)) → (((0 : Int) ≤ wr ((wr ((wr ((16 : Int) + (wr ((7 : Int) * i2)))) + 2)) + ((xand (xushr (V2 406 15) 16) 32767).tmod 4)) ∧ wr ((wr ((wr ((16 : Int) + (wr ((7 : Int) * i2)))) + 2)) + ((xand (xushr (V2 406 15) 16) 32767).tmod 4)) < (731 : Int)) ∧ (∀ V4 : xF, V4 = up2 V3 406 ((wr ((wr ((wr ((16 : Int) + (wr ((7 : Int) * i2)))) + 2)) + ((xand (xushr (V2 406 15) 16) 32767).tmod 4))).toNat) ((xand (xushr (V3 406 15) 16) 32767).tmod 5) → RY d 259 2 [vr 405, vi i1, vi (wr (i2 + 1))] [] V4 D Q))) ∧ ((V1 406 11) ≤ ((xand (xushr (V1 406 15) 16) 32767).tmod 100) → RY d 259 2 [vr 405, vi i1, vi (wr (i2 + 1))] [] V1 D Q)))))) :
    RY d 259 2 [vr 405, vi i1, vi i2] [] V D Q := yat (c := xk_259) (hd := [2590002, 2590029]) (dk := []) (dv := [3260043]) (nb := [2590009, 2590013, 3260013]) rfl h
set_option maxRecDepth 20000 in
theorem u_259_29 {d : Nat} {i1 i2 : Int} {V : xF} {D : yD} {Q : xRes → xF → yD → Prop}
    (h : ((V 406 4) ≤ i2 → ∀ V1 : xF, V1 = up2 V 406 12 (yr_169 9999 (wr ((V 406 12) + 1)) V D) → Q (.inl none) V1 D) ∧ (i2 < (V 406 4) → RY d 327 0 [vr 405, vi i2, vr 0, vr 0] [] V D (yback d 259 44 [vr 405, vi i1, vi i2] [] Q))) :
    RY d 259 29 [vr 405, vi i1, vi i2] [] V D Q := yat (c := xk_259) (hd := [2590002, 2590029]) (dk := []) (dv := []) (nb := [2590036]) rfl h
set_option maxRecDepth 20000 in
theorem u_259_44 {d : Nat} {i1 i2 : Int} {V : xF} {D : yD} {Q : xRes → xF → yD → Prop}
    (h : RY d 259 29 [vr 405, vi i1, vi (wr (i2 + 1))] [] V D Q) :
    RY d 259 44 [vr 405, vi i1, vi i2] [] V D Q := yat (c := xk_259) (hd := [2590002, 2590029]) (dk := []) (dv := []) (nb := []) rfl h
set_option maxRecDepth 20000 in
theorem u_260_0_81 {d : Nat} {i1 i2 i3 : Int} {V : xF} {D : yD} {Q : xRes → xF → yD → Prop}
    (h : (i3 ≠ 1 → ((i3 ≠ 0 → RY d 260 25 [vr 81, vi i1, vi i2, vi i3, vi (wr ((wr (i2.tdiv 16)) + 0)), vr 0] [] V D Q) ∧ (i3 = 0 → RY d 260 25 [vr 81, vi i1, vi i2, vi i3, vi (wr ((wr (i2.tdiv 16)) + ((-1)))), vr 0] [] V D Q))) ∧ (i3 = 1 → RY d 260 25 [vr 81, vi i1, vi i2, vi i3, vi (wr ((wr (i2.tdiv 16)) + 1)), vr 0] [] V D Q)) :
    RY d 260 0 [vr 81, vi i1, vi i2, vi i3, vr 0, vr 0] [] V D Q := yat (c := xk_260) (hd := [2600025, 2600051]) (dk := []) (dv := []) (nb := [2600006, 2600014]) rfl h
set_option maxRecDepth 20000 in
theorem u_260_25_81 {d : Nat} {i1 i2 i3 i4 : Int} {V : xF} {D : yD} {Q : xRes → xF → yD → Prop}
    (h : (i3 ≠ 3 → ((i3 ≠ 2 → RY d 260 51 [vr 81, vi i1, vi i2, vi i3, vi i4, vi (wr ((i2.tmod 16) + 0))] [] V D Q) ∧ (i3 = 2 → RY d 260 51 [vr 81, vi i1, vi i2, vi i3, vi i4, vi (wr ((i2.tmod 16) + ((-1))))] [] V D Q))) ∧ (i3 = 3 → RY d 260 51 [vr 81, vi i1, vi i2, vi i3, vi i4, vi (wr ((i2.tmod 16) + 1))] [] V D Q)) :
    RY d 260 25 [vr 81, vi i1, vi i2, vi i3, vi i4, vr 0] [] V D Q := yat (c := xk_260) (hd := [2600025, 2600051]) (dk := []) (dv := []) (nb := [2600031, 2600040]) rfl h
set_option maxRecDepth 20000 in
theorem u_260_51_81 {d : Nat} {i1 i2 i3 i4 i5 : Int} {V : xF} {D : yD} {Q : xRes → xF → yD → Prop}
    (h : yg_328_81 i1 i4 i5 V D ∧ (((yr_328_81 i1 i4 i5 V D) = 0 → Q (.inl (some (vi ((-1))))) V D) ∧ ((yr_328_81 i1 i4 i5 V D) ≠ 0 → Q (.inl (some (vi (yr_265 i4 i5 V D)))) V D))) :
    RY d 260 51 [vr 81, vi i1, vi i2, vi i3, vi i4, vi i5] [] V D Q := yat (c := xk_260) (hd := [2600025, 2600051]) (dk := []) (dv := []) (nb := [2600060]) rfl h
set_option maxRecDepth 20000 in
theorem u_261_0 {d : Nat} {i1 : Int} {V : xF} {D : yD} {Q : xRes → xF → yD → Prop}
    (h : RY d 261 6 [vr 90, vi i1, vr 253, vi 0, vi 47] [] V D Q) :
    RY d 261 0 [vr 90, vi i1, vr 253, vr 0, vr 0] [] V D Q := yat (c := xk_261) (hd := [2610006]) (dk := []) (dv := []) (nb := []) rfl h
set_option maxRecDepth 20000 in
theorem u_261_6 {d : Nat} {i1 i3 i4 : Int} {V : xF} {D : yD} {Q : xRes → xF → yD → Prop}
    (h : (i4 < 0 → ∀ V1 : xF, V1 = up2 V 90 1 (yr_291 (wr ((V 90 1) + i3)) 60 V D) → ∀ V2 : xF, V2 = up2 V1 90 0 (yr_291 (wr ((V1 90 0) + 1)) 9999 V1 D) → Q (.inl (some (vi i3))) V2 D) ∧ ((0 : Int) ≤ i4 → (((0 : Int) ≤ i4 ∧ i4 < (48 : Int)) ∧ (((V 253 i4.toNat) ≤ 0 → RY d 261 6 [vr 90, vi i1, vr 253, vi i3, vi (wr (i4 + (-1)))] [] V D Q) ∧ ((0 : Int) < (V 253 i4.toNat) → ∀ V3 : xF, V3 = xcpy V 91 0 91 4 236 → ∀ V4 : xF, V4 = up2 V3 91 0 (V3 90 0) → ∀ V5 : xF, V5 = up2 V4 91 1 i1 → ∀ V6 : xF, V6 = up2 V5 91 2 i4 → (((0 : Int) ≤ i4 ∧ i4 < (48 : Int)) ∧ (∀ V7 : xF, V7 = up2 V6 91 3 (V6 253 i4.toNat) → RY d 261 6 [vr 90, vi i1, vr 253, vi (wr (i3 + 1)), vi (wr (i4 + (-1)))] [] V7 D Q))))))) :
    RY d 261 6 [vr 90, vi i1, vr 253, vi i3, vi i4] [] V D Q := yat (c := xk_261) (hd := [2610006]) (dk := []) (dv := [2610014, 2610067]) (nb := [2610008, 2610015]) rfl h
set_option maxRecDepth 20000 in
theorem u_262_0_81 {d : Nat} {i1 i2 i3 : Int} {V : xF} {D : yD} {Q : xRes → xF → yD → Prop}
    (h : (i3 = 0 → (((0 : Int) ≤ i1 ∧ i1 < (5 : Int)) ∧ ((0 : Int) ≤ i1 ∧ i1 < (5 : Int)) ∧ (∀ V1 : xF, V1 = up2 V 86 i1.toNat (xand (V 86 i1.toNat) (xxor (xshl 1 i2) ((-1)))) → ((i3 = 0 → (((0 : Int) ≤ i2 ∧ i2 < (5 : Int)) ∧ ((0 : Int) ≤ i2 ∧ i2 < (5 : Int)) ∧ (∀ V2 : xF, V2 = up2 V1 86 i2.toNat (xand (V1 86 i2.toNat) (xxor (xshl 1 i1) ((-1)))) → Q (.inl none) V2 D))) ∧ (i3 ≠ 0 → (((0 : Int) ≤ i2 ∧ i2 < (5 : Int)) ∧ ((0 : Int) ≤ i2 ∧ i2 < (5 : Int)) ∧ (∀ V3 : xF, V3 = up2 V1 86 i2.toNat (xor_ (V1 86 i2.toNat) (xshl 1 i1)) → Q (.inl none) V3 D))))))) ∧ (i3 ≠ 0 → (((0 : Int) ≤ i1 ∧ i1 < (5 : Int)) ∧ ((0 : Int) ≤ i1 ∧ i1 < (5 : Int)) ∧ (∀ V4 : xF, V4 = up2 V 86 i1.toNat (xor_ (V 86 i1.toNat) (xshl 1 i2)) → ((i3 = 0 → (((0 : Int) ≤ i2 ∧ i2 < (5 : Int)) ∧ ((0 : Int) ≤ i2 ∧ i2 < (5 : Int)) ∧ (∀ V5 : xF, V5 = up2 V4 86 i2.toNat (xand (V4 86 i2.toNat) (xxor (xshl 1 i1) ((-1)))) → Q (.inl none) V5 D))) ∧ (i3 ≠ 0 → (((0 : Int) ≤ i2 ∧ i2 < (5 : Int)) ∧ ((0 : Int) ≤ i2 ∧ i2 < (5 : Int)) ∧ (∀ V6 : xF, V6 = up2 V4 86 i2.toNat (xor_ (V4 86 i2.toNat) (xshl 1 i1)) → Q (.inl none) V6 D)))))))) :
    RY d 262 0 [vr 81, vi i1, vi i2, vi i3] [] V D Q := yat (c := xk_262) (hd := []) (dk := []) (dv := [2620014, 2620027, 2620034, 2620049, 2620062, 2620069]) (nb := [2620006, 2620041]) rfl h
set_option maxRecDepth 20000 in
theorem u_262_0_92 {d : Nat} {i1 i2 i3 : Int} {V : xF} {D : yD} {Q : xRes → xF → yD → Prop}
    (h : (i3 = 0 → (((0 : Int) ≤ i1 ∧ i1 < (5 : Int)) ∧ ((0 : Int) ≤ i1 ∧ i1 < (5 : Int)) ∧ (∀ V1 : xF, V1 = up2 V 97 i1.toNat (xand (V 97 i1.toNat) (xxor (xshl 1 i2) ((-1)))) → ((i3 = 0 → (((0 : Int) ≤ i2 ∧ i2 < (5 : Int)) ∧ ((0 : Int) ≤ i2 ∧ i2 < (5 : Int)) ∧ (∀ V2 : xF, V2 = up2 V1 97 i2.toNat (xand (V1 97 i2.toNat) (xxor (xshl 1 i1) ((-1)))) → Q (.inl none) V2 D))) ∧ (i3 ≠ 0 → (((0 : Int) ≤ i2 ∧ i2 < (5 : Int)) ∧ ((0 : Int) ≤ i2 ∧ i2 < (5 : Int)) ∧ (∀ V3 : xF, V3 = up2 V1 97 i2.toNat (xor_ (V1 97 i2.toNat) (xshl 1 i1)) → Q (.inl none) V3 D))))))) ∧ (i3 ≠ 0 → (((0 : Int) ≤ i1 ∧ i1 < (5 : Int)) ∧ ((0 : Int) ≤ i1 ∧ i1 < (5 : Int)) ∧ (∀ V4 : xF, V4 = up2 V 97 i1.toNat (xor_ (V 97 i1.toNat) (xshl 1 i2)) → ((i3 = 0 → (((0 : Int) ≤ i2 ∧ i2 < (5 : Int)) ∧ ((0 : Int) ≤ i2 ∧ i2 < (5 : Int)) ∧ (∀ V5 : xF, V5 = up2 V4 97 i2.toNat (xand (V4 97 i2.toNat) (xxor (xshl 1 i1) ((-1)))) → Q (.inl none) V5 D))) ∧ (i3 ≠ 0 → (((0 : Int) ≤ i2 ∧ i2 < (5 : Int)) ∧ ((0 : Int) ≤ i2 ∧ i2 < (5 : Int)) ∧ (∀ V6 : xF, V6 = up2 V4 97 i2.toNat (xor_ (V4 97 i2.toNat) (xshl 1 i1)) → Q (.inl none) V6 D)))))))) :
    RY d 262 0 [vr 92, vi i1, vi i2, vi i3] [] V D Q := yat (c := xk_262) (hd := []) (dk := []) (dv := [2620014, 2620027, 2620034, 2620049, 2620062, 2620069]) (nb := [2620006, 2620041]) rfl h
set_option maxRecDepth 20000 in
theorem u_263_0 {d : Nat} {a0 : Nat} {V : xF} {D : yD} {Q : xRes → xF → yD → Prop}
    (h : RY d 263 4 [vr a0, vi ((-1)), vi 0] [] V D Q) :
    RY d 263 0 [vr a0, vr 0, vr 0] [] V D Q := yat (c := xk_263) (hd := [2630004]) (dk := []) (dv := []) (nb := []) rfl h
set_option maxRecDepth 20000 in
theorem u_263_4 {d : Nat} {a0 : Nat} {i1 i2 : Int} {V : xF} {D : yD} {Q : xRes → xF → yD → Prop}
    (h : ((48 : Int) ≤ i2 → Q (.inl (some (vi i1))) V D) ∧ (i2 < 48 → (a0 ≠ 0 ∧ (20 ≤ (yK D.2.2.1 a0).1 ∧ (yK D.2.2.1 a0).1 ≤ 21) ∧ ((0 : Int) ≤ i2 ∧ i2 < ((yK D.2.2.1 a0).2 : Int)) ∧ (((V a0 i2.toNat) ≤ 0 → RY d 263 4 [vr a0, vi i1, vi (wr (i2 + 1))] [] V D Q) ∧ ((0 : Int) < (V a0 i2.toNat) → ((i1 = ((-1)) → RY d 263 4 [vr a0, vi i2, vi (wr (i2 + 1))] [] V D Q) ∧ (i1 ≠ ((-1)) → (a0 ≠ 0 ∧ (20 ≤ (yK D.2.2.1 a0).1 ∧ (yK D.2.2.1 a0).1 ≤ 21) ∧ ((0 : Int) ≤ i2 ∧ i2 < ((yK D.2.2.1 a0).2 : Int)) ∧ a0 ≠ 0 ∧ (20 ≤ (yK D.2.2.1 a0).1 ∧ (yK D.2.2.1 a0).1 ≤ 21) ∧ ((0 : Int) ≤ i1 ∧ i1 < ((yK D.2.2.1 a0).2 : Int)) ∧ (((V a0 i2.toNat) ≤ (V a0 i1.toNat) → RY d 263 4 [vr a0, vi i1, vi (wr (i2 + 1))] [] V D Q) ∧ ((V a0 i1.toNat) < (V a0 i2.toNat) → RY d 263 4 [vr a0, vi i2, vi (wr (i2 + 1))] [] V D Q)))))))))) :
    RY d 263 4 [vr a0, vi i1, vi i2] [] V D Q := yat (c := xk_263) (hd := [2630004]) (dk := [2630010, 2630012, 2630021, 2630023, 2630024, 2630026]) (dv := [2630012, 2630023, 2630026]) (nb := [2630007, 2630013, 2630018, 2630027]) rfl h
set_option maxRecDepth 20000 in
theorem u_264_0 {d : Nat} {i1 i2 i3 : Int} {V : xF} {D : yD} {Q : xRes → xF → yD → Prop}
    (h : RY d 235 0 [vr 70, vi i1] [] V D (yback d 264 5 [vr 70, vi i1, vi i2, vi i3] [] Q)) :
    RY d 264 0 [vr 70, vi i1, vi i2, vi i3] [] V D Q := yat (c := xk_264) (hd := []) (dk := []) (dv := []) (nb := []) rfl h
set_option maxRecDepth 20000 in
theorem u_264_5 {d : Nat} {i1 i2 i3 : Int} {V : xF} {D : yD} {Q : xRes → xF → yD → Prop}
    (h : yg_328_81 i1 i2 i3 V D ∧ (((yr_328_81 i1 i2 i3 V D) ≠ 0 → Q (.inl none) V D) ∧ ((yr_328_81 i1 i2 i3 V D) = 0 → Q (.inr 2) V (D.1, D.2.1, D.2.2.1, D.2.2.2.1, D.2.2.2.2.1 + 1, D.2.2.2.2.2 + 6)))) :
    RY d 264 5 [vr 70, vi i1, vi i2, vi i3] [] V D Q := yat (c := xk_264) (hd := []) (dk := []) (dv := []) (nb := [2640015]) rfl h
set_option maxRecDepth 20000 in
theorem u_266_0_81 {d : Nat} {i2 i3 i4 : Int} {V : xF} {D : yD} {Q : xRes → xF → yD → Prop}
    (h : RY d 287 0 [vr 254, vr 81, vi i2, vi i3, vr 0] [] V D (yback d 266 10 [vr 254, vr 81, vi i2, vi i3, vi i4, vi 0, vr 0, vr 0, vr 0] [] Q)) :
    RY d 266 0 [vr 254, vr 81, vi i2, vi i3, vi i4, vr 0, vr 0, vr 0, vr 0] [] V D Q := yat (c := xk_266) (hd := [2660017, 2660043]) (dk := []) (dv := []) (nb := []) rfl h
set_option maxRecDepth 20000 in
theorem u_266_10_81 {d : Nat} {i2 i3 i4 i5 : Int} {V : xF} {D : yD} {Q : xRes → xF → yD → Prop}
    (h : RY d 266 17 [vr 254, vr 81, vi i2, vi i3, vi i4, vi i5, vi (wr (-(V 81 16))), vr 0, vr 0] [] V D Q) :
    RY d 266 10 [vr 254, vr 81, vi i2, vi i3, vi i4, vi i5, vr 0, vr 0, vr 0] [] V D Q := yat (c := xk_266) (hd := [2660017, 2660043]) (dk := []) (dv := []) (nb := []) rfl h
set_option maxRecDepth 20000 in
theorem u_266_17_81 {d : Nat} {i2 i3 i4 i5 i6 : Int} {v7 v8 : xV} {V : xF} {D : yD} {Q : xRes → xF → yD → Prop}
    (h : ((V 81 16) < i6 → Q (.inl (some (vi i5))) V D) ∧ (i6 ≤ (V 81 16) → RY d 266 43 [vr 254, vr 81, vi i2, vi i3, vi i4, vi i5, vi i6, vi (wr ((V 81 16) - (yr_288 i6 V D))), vi (wr (-(wr ((V 81 16) - (yr_288 i6 V D)))))] [] V D Q)) :
    RY d 266 17 [vr 254, vr 81, vi i2, vi i3, vi i4, vi i5, vi i6, v7, v8] [] V D Q := yat (c := xk_266) (hd := [2660017, 2660043]) (dk := []) (dv := []) (nb := [2660023]) rfl h
set_option maxRecDepth 20000 in
theorem u_266_43_81 {d : Nat} {i2 i3 i4 i5 i6 i7 i8 : Int} {V : xF} {D : yD} {Q : xRes → xF → yD → Prop}
    (h : (i7 < i8 → RY d 266 17 [vr 254, vr 81, vi i2, vi i3, vi i4, vi i5, vi (wr (i6 + 1)), vi i7, vi i8] [] V D Q) ∧ (i8 ≤ i7 → ((i6 ≠ 0 → RY d 289 0 [vr 254, vi i6, vi i8, vr 0, vr 0] [] V D (yback d 266 68 [vr 254, vr 81, vi i2, vi i3, vi i4, vi i5, vi i6, vi i7, vi i8] [] Q)) ∧ (i6 = 0 → ((i8 = 0 → RY d 266 43 [vr 254, vr 81, vi i2, vi i3, vi i4, vi i5, vi i6, vi i7, vi (wr (i8 + 1))] [] V D Q) ∧ (i8 ≠ 0 → RY d 289 0 [vr 254, vi i6, vi i8, vr 0, vr 0] [] V D (yback d 266 68 [vr 254, vr 81, vi i2, vi i3, vi i4, vi i5, vi i6, vi i7, vi i8] [] Q))))))) :
    RY d 266 43 [vr 254, vr 81, vi i2, vi i3, vi i4, vi i5, vi i6, vi i7, vi i8] [] V D Q := yat (c := xk_266) (hd := [2660017, 2660043]) (dk := []) (dv := []) (nb := [2660047, 2660052, 2660057]) rfl h
set_option maxRecDepth 20000 in
theorem u_266_68_81 {d : Nat} {i2 i3 i4 i5 i6 i7 i8 : Int} {V : xF} {D : yD} {Q : xRes → xF → yD → Prop}
    (h : ((V 254 6) ≠ i4 → RY d 266 43 [vr 254, vr 81, vi i2, vi i3, vi i4, vi i5, vi i6, vi i7, vi (wr (i8 + 1))] [] V D Q) ∧ ((V 254 6) = i4 → (((V 254 7) ≤ 0 → RY d 266 43 [vr 254, vr 81, vi i2, vi i3, vi i4, vi i5, vi i6, vi i7, vi (wr (i8 + 1))] [] V D Q) ∧ ((0 : Int) < (V 254 7) → RY d 266 43 [vr 254, vr 81, vi i2, vi i3, vi i4, vi (xor_ i5 (xor_ (yr_329 i6 V D) (xshl (yr_329 i8 V D) 2))), vi i6, vi i7, vi (wr (i8 + 1))] [] V D Q)))) :
    RY d 266 68 [vr 254, vr 81, vi i2, vi i3, vi i4, vi i5, vi i6, vi i7, vi i8] [] V D Q := yat (c := xk_266) (hd := [2660017, 2660043]) (dk := []) (dv := []) (nb := [2660074, 2660081]) rfl h
set_option maxRecDepth 20000 in
theorem u_267_0 {d : Nat} {V : xF} {D : yD} {Q : xRes → xF → yD → Prop}
    (h : ((40 : Int) < (V 76 1) → ∀ D1 : yD, D1 = (up2 D.1 76 7 0, D.2) → ∀ D2 : yD, D2 = (up2 D1.1 76 8 0, D1.2) → RY d 267 36 [vr 76, vi 0, vi 0, vr 0, vr 0] [] V D2 Q) ∧ ((V 76 1) ≤ 40 → ((((V 76 1).tmod 2) ≠ 0 → ∀ D3 : yD, D3 = (up2 D.1 76 7 0, D.2) → ∀ D4 : yD, D4 = (up2 D3.1 76 8 0, D3.2) → RY d 267 36 [vr 76, vi 0, vi 0, vr 0, vr 0] [] V D4 Q) ∧ (((V 76 1).tmod 2) = 0 → ∀ D5 : yD, D5 = (up2 D.1 76 7 0, D.2) → ∀ D6 : yD, D6 = (up2 D5.1 76 8 0, D5.2) → RY d 267 36 [vr 76, vi 1, vi 0, vr 0, vr 0] [] V D6 Q)))) :
    RY d 267 0 [vr 76, vr 0, vr 0, vr 0, vr 0] [] V D Q := yat (c := xk_267) (hd := [2670036]) (dk := []) (dv := []) (nb := [2670006, 2670015]) rfl h
set_option maxRecDepth 20000 in
theorem u_267_36 {d : Nat} {i1 i2 : Int} {v3 v4 : xV} {V : xF} {D : yD} {Q : xRes → xF → yD → Prop}
    (h : (i1 = 0 → ∀ V1 : xF, V1 = up2 V 76 1 0 → ((i1 = 0 ∨ i1 = 1) ∧ Q (.inl (some (vi i1))) V1 D)) ∧ (i1 ≠ 0 → (((V 76 1) ≤ (wr (i2 + 1)) → ∀ V2 : xF, V2 = up2 V 76 1 0 → ((i1 = 0 ∨ i1 = 1) ∧ Q (.inl (some (vi i1))) V2 D)) ∧ ((wr (i2 + 1)) < (V 76 1) → (((0 : Int) ≤ i2 ∧ i2 < (400 : Int)) ∧ ((0 : Int) ≤ wr (i2 + 1) ∧ wr (i2 + 1) < (400 : Int)) ∧ (((V 77 i2.toNat) < 1 → RY d 267 36 [vr 76, vi 0, vi (wr (i2 + 2)), vi (V 77 i2.toNat), vi (V 77 ((wr (i2 + 1)).toNat))] [] V D Q) ∧ ((1 : Int) ≤ (V 77 i2.toNat) → (((63 : Int) < (V 77 i2.toNat) → RY d 267 36 [vr 76, vi 0, vi (wr (i2 + 2)), vi (V 77 i2.toNat), vi (V 77 ((wr (i2 + 1)).toNat))] [] V D Q) ∧ ((V 77 i2.toNat) ≤ 63 → (((V 77 ((wr (i2 + 1)).toNat)) ≤ 1 → (((V 77 ((wr (i2 + 1)).toNat)) ≠ 1 → ∀ D3 : yD, D3 = (up2 D.1 76 8 (xlor (D.1 76 8) (xlshl 1 (V 77 i2.toNat))), D.2) → RY d 267 36 [vr 76, vi i1, vi (wr (i2 + 2)), vi (V 77 i2.toNat), vi (V 77 ((wr (i2 + 1)).toNat))] [] V D3 Q) ∧ ((V 77 ((wr (i2 + 1)).toNat)) = 1 → ∀ D4 : yD, D4 = (up2 D.1 76 7 (xlor (D.1 76 7) (xlshl 1 (V 77 i2.toNat))), D.2) → RY d 267 36 [vr 76, vi i1, vi (wr (i2 + 2)), vi (V 77 i2.toNat), vi (V 77 ((wr (i2 + 1)).toNat))] [] V D4 Q))) ∧ ((1 : Int) < (V 77 ((wr (i2 + 1)).toNat)) → RY d 267 36 [vr 76, vi 0, vi (wr (i2 + 2)), vi (V 77 i2.toNat), vi (V 77 ((wr (i2 + 1)).toNat))] [] V D Q))))))))))) :
    RY d 267 36 [vr 76, vi i1, vi i2, v3, v4] [] V D Q := yat (c := xk_267) (hd := [2670036]) (dk := []) (dv := [2670055, 2670064, 2670134]) (nb := [2670037, 2670047, 2670069, 2670075, 2670081, 2670092]) rfl h
set_option maxRecDepth 20000 in
theorem u_268_0 {d : Nat} {i1 : Int} {V : xF} {D : yD} {Q : xRes → xF → yD → Prop}
    (h : (i1 ≠ 0 → Q (.inl none) V D) ∧ (i1 = 0 → Q (.inr 0) V (D.1, D.2.1, D.2.2.1, D.2.2.2.1, D.2.2.2.2.1 + 1, D.2.2.2.2.2 + 6))) :
    RY d 268 0 [vr 70, vi i1] [] V D Q := yat (c := xk_268) (hd := []) (dk := []) (dv := []) (nb := [2680001]) rfl h
set_option maxRecDepth 20000 in
theorem u_269_0_81 {d : Nat} {i2 i4 : Int} {V : xF} {D : yD} {Q : xRes → xF → yD → Prop}
    (h : RY d 313 0 [vr 256, vr 81, vi i2, vr 0] [] V D (yback d 269 9 [vr 256, vr 81, vi i2, vr 76, vi i4, vi 0, vr 0] [] Q)) :
    RY d 269 0 [vr 256, vr 81, vi i2, vr 76, vi i4, vr 0, vr 0] [] V D Q := yat (c := xk_269) (hd := [2690012]) (dk := []) (dv := []) (nb := []) rfl h
set_option maxRecDepth 20000 in
theorem u_269_9_81 {d : Nat} {i2 i4 i5 : Int} {V : xF} {D : yD} {Q : xRes → xF → yD → Prop}
    (h : RY d 269 12 [vr 256, vr 81, vi i2, vr 76, vi i4, vi i5, vi 0] [] V D Q) :
    RY d 269 9 [vr 256, vr 81, vi i2, vr 76, vi i4, vi i5, vr 0] [] V D Q := yat (c := xk_269) (hd := [2690012]) (dk := []) (dv := []) (nb := []) rfl h
set_option maxRecDepth 20000 in
theorem u_269_12_81 {d : Nat} {i2 i4 i5 i6 : Int} {V : xF} {D : yD} {Q : xRes → xF → yD → Prop}
    (h : yg_314_81 i2 V D ∧ (((yr_314_81 i2 V D) ≤ i6 → ((i4 = 0 → Q (.inl (some (vi i5))) V D) ∧ (i4 ≠ 0 → Q (.inl (some (vi ((-1))))) V D))) ∧ (i6 < (yr_314_81 i2 V D) → ((24 ≤ (yK D.2.2.1 257).1 ∧ (yK D.2.2.1 257).1 ≤ 25) ∧ ((0 : Int) ≤ i6 ∧ i6 < (121 : Int)) ∧ yR D.2.1 D.2.2.1 257 i6.toNat ≠ 0 ∧ (∀ q1 : Nat, q1 = yR D.2.1 D.2.2.1 257 i6.toNat → RY d 273 0 [vr 76, vr q1, vr 0, vr 0] [] V D (yback d 269 33 [vr 256, vr 81, vi i2, vr 76, vi i4, vi i5, vi i6] [] Q)))))) :
    RY d 269 12 [vr 256, vr 81, vi i2, vr 76, vi i4, vi i5, vi i6] [] V D Q := yat (c := xk_269) (hd := [2690012]) (dk := [2690029]) (dv := [2690029]) (nb := [2690019, 2690060]) rfl h
set_option maxRecDepth 20000 in
theorem u_269_33_81 {d : Nat} {i2 i4 i5 i6 i_0 : Int} {V : xF} {D : yD} {Q : xRes → xF → yD → Prop}
    (h : (i_0 = 0 → RY d 269 12 [vr 256, vr 81, vi i2, vr 76, vi i4, vi i5, vi (wr (i6 + 1))] [] V D Q) ∧ (i_0 ≠ 0 → ((i4 = 0 → RY d 269 12 [vr 256, vr 81, vi i2, vr 76, vi i4, vi (wr (i5 + 1)), vi (wr (i6 + 1))] [] V D Q) ∧ (i4 ≠ 0 → (yg_315_81 i2 i6 V D ∧ Q (.inl (some (vi (yr_315_81 i2 i6 V D)))) V D))))) :
    RY d 269 33 [vr 256, vr 81, vi i2, vr 76, vi i4, vi i5, vi i6] [vi i_0] V D Q := yat (c := xk_269) (hd := [2690012]) (dk := []) (dv := []) (nb := [2690033, 2690038]) rfl h
set_option maxRecDepth 20000 in
theorem u_270_0 {d : Nat} {i1 : Int} {V : xF} {D : yD} {Q : xRes → xF → yD → Prop}
    (h : ((i1.tmod 2) ≠ 0 → RY d 270 20 [vr 405, vi i1, vi 0, vi 0] [] V D Q) ∧ ((i1.tmod 2) = 0 → (((40 : Int) < i1 → RY d 270 20 [vr 405, vi i1, vi 0, vi 0] [] V D Q) ∧ (i1 ≤ 40 → RY d 270 20 [vr 405, vi i1, vi 1, vi 0] [] V D Q)))) :
    RY d 270 0 [vr 405, vi i1, vr 0, vr 0] [] V D Q := yat (c := xk_270) (hd := [2700020]) (dk := []) (dv := []) (nb := [2700003, 2700009]) rfl h
set_option maxRecDepth 20000 in
theorem u_270_20 {d : Nat} {i1 i2 i3 : Int} {V : xF} {D : yD} {Q : xRes → xF → yD → Prop}
    (h : (i1 ≤ i3 → ((i2 = 0 ∨ i2 = 1) ∧ Q (.inl (some (vi i2))) V D)) ∧ (i3 < i1 → ((i2 = 0 → ((i2 = 0 ∨ i2 = 1) ∧ Q (.inl (some (vi i2))) V D)) ∧ (i2 ≠ 0 → (((0 : Int) ≤ i3 ∧ i3 < (400 : Int)) ∧ (((yr_124 (V 410 i3.toNat) 1 63 V D) = 0 → RY d 270 20 [vr 405, vi i1, vi 0, vi (wr (i3 + 2))] [] V D Q) ∧ ((yr_124 (V 410 i3.toNat) 1 63 V D) ≠ 0 → (((0 : Int) ≤ wr (i3 + 1) ∧ wr (i3 + 1) < (400 : Int)) ∧ (((2 : Int) ≤ (V 410 ((wr (i3 + 1)).toNat)) → RY d 270 20 [vr 405, vi i1, vi 0, vi (wr (i3 + 2))] [] V D Q) ∧ ((V 410 ((wr (i3 + 1)).toNat)) < 2 → RY d 270 20 [vr 405, vi i1, vi 1, vi (wr (i3 + 2))] [] V D Q)))))))))) :
    RY d 270 20 [vr 405, vi i1, vi i2, vi i3] [] V D Q := yat (c := xk_270) (hd := [2700020]) (dk := []) (dv := [2700034, 2700051, 2700069]) (nb := [2700022, 2700026, 2700041, 2700053]) rfl h
set_option maxRecDepth 20000 in
theorem u_271_0_81 {d : Nat} {i2 : Int} {V : xF} {D : yD} {Q : xRes → xF → yD → Prop}
    (h : yg_314_81 i2 V D ∧ RY d 313 0 [vr 256, vr 81, vi i2, vr 0] [] V D (yback d 271 16 [vr 256, vr 81, vi i2, vr 76, vi (yr_314_81 i2 V D), vi 0, vr 0, vr 0, vr 0, vr 0] [] Q)) :
    RY d 271 0 [vr 256, vr 81, vi i2, vr 76, vr 0, vr 0, vr 0, vr 0, vr 0, vr 0] [] V D Q := yat (c := xk_271) (hd := [2710019, 2710103]) (dk := []) (dv := []) (nb := []) rfl h
set_option maxRecDepth 20000 in
theorem u_271_16_81 {d : Nat} {i2 i4 i5 : Int} {V : xF} {D : yD} {Q : xRes → xF → yD → Prop}
    (h : RY d 271 19 [vr 256, vr 81, vi i2, vr 76, vi i4, vi i5, vi 0, vr 0, vr 0, vr 0] [] V D Q) :
    RY d 271 16 [vr 256, vr 81, vi i2, vr 76, vi i4, vi i5, vr 0, vr 0, vr 0, vr 0] [] V D Q := yat (c := xk_271) (hd := [2710019, 2710103]) (dk := []) (dv := []) (nb := []) rfl h
set_option maxRecDepth 20000 in
theorem u_271_19_81 {d : Nat} {i2 i4 i5 i6 : Int} {V : xF} {D : yD} {Q : xRes → xF → yD → Prop}
    (h : (i4 ≤ i6 → (((2 : Int) ≤ i5 → RY d 271 103 [vr 256, vr 81, vi i2, vr 76, vi i4, vi i5, vi ((-1)), vi (wr (i5 + 1)), vi 0, vr 0] [] V D Q) ∧ (i5 < 2 → Q (.inl (some (vi ((-1))))) V D))) ∧ (i6 < i4 → ((24 ≤ (yK D.2.2.1 257).1 ∧ (yK D.2.2.1 257).1 ≤ 25) ∧ ((0 : Int) ≤ i6 ∧ i6 < (121 : Int)) ∧ yR D.2.1 D.2.2.1 257 i6.toNat ≠ 0 ∧ (∀ q1 : Nat, q1 = yR D.2.1 D.2.2.1 257 i6.toNat → RY d 273 0 [vr 76, vr q1, vr 0, vr 0] [] V D (yback d 271 43 [vr 256, vr 81, vi i2, vr 76, vi i4, vi i5, vi i6, vr 0, vr 0, vr 0] [vi i6, vr 380] Q))))) :
    RY d 271 19 [vr 256, vr 81, vi i2, vr 76, vi i4, vi i5, vi i6, vr 0, vr 0, vr 0] [] V D Q := yat (c := xk_271) (hd := [2710019, 2710103]) (dk := [2710039]) (dv := [2710039]) (nb := [2710023, 2710086]) rfl h
set_option maxRecDepth 20000 in
theorem u_271_43_81 {d : Nat} {i2 i4 i5 i6 i_1 i_2 : Int} {V : xF} {D : yD} {Q : xRes → xF → yD → Prop}
    (h : ((0 : Int) ≤ i_1 ∧ i_1 < (121 : Int)) ∧ (i_2 = 0 ∨ i_2 = 1) ∧ (∀ V1 : xF, V1 = up2 V 380 i_1.toNat i_2 → (((0 : Int) ≤ i6 ∧ i6 < (121 : Int)) ∧ (((V1 380 i6.toNat) = 0 → RY d 330 0 [vr 256, vi i6, vr 0] [] V1 D (yback d 271 76 [vr 256, vr 81, vi i2, vr 76, vi i4, vi (wr (i5 + 0)), vi i6, vr 0, vr 0, vr 0] [vi i6, vr 379] Q)) ∧ ((V1 380 i6.toNat) ≠ 0 → RY d 330 0 [vr 256, vi i6, vr 0] [] V1 D (yback d 271 76 [vr 256, vr 81, vi i2, vr 76, vi i4, vi (wr (i5 + 1)), vi i6, vr 0, vr 0, vr 0] [vi i6, vr 379] Q)))))) :
    RY d 271 43 [vr 256, vr 81, vi i2, vr 76, vi i4, vi i5, vi i6, vr 0, vr 0, vr 0] [vi i_2, vi i_1, vr 380] V D Q := yat (c := xk_271) (hd := [2710019, 2710103]) (dk := []) (dv := [2710043, 2710052]) (nb := [2710053]) rfl h
set_option maxRecDepth 20000 in
theorem u_271_76_81 {d : Nat} {i2 i4 i5 i6 i_1 i_2 : Int} {V : xF} {D : yD} {Q : xRes → xF → yD → Prop}
    (h : ((0 : Int) ≤ i_1 ∧ i_1 < (121 : Int)) ∧ (∀ V1 : xF, V1 = up2 V 379 i_1.toNat i_2 → RY d 271 19 [vr 256, vr 81, vi i2, vr 76, vi i4, vi i5, vi (wr (i6 + 1)), vr 0, vr 0, vr 0] [] V1 D Q)) :
    RY d 271 76 [vr 256, vr 81, vi i2, vr 76, vi i4, vi i5, vi i6, vr 0, vr 0, vr 0] [vi i_2, vi i_1, vr 379] V D Q := yat (c := xk_271) (hd := [2710019, 2710103]) (dk := []) (dv := [2710076]) (nb := []) rfl h
set_option maxRecDepth 20000 in
theorem u_271_103_81 {d : Nat} {i2 i4 i5 i6 i7 i8 : Int} {v9 : xV} {V : xF} {D : yD} {Q : xRes → xF → yD → Prop}
    (h : ((4 : Int) ≤ i8 → Q (.inl (some (vi i6))) V D) ∧ (i8 < 4 → RY d 331 0 [vr 256, vr 81, vi i2, vi i8, vr 0, vr 0, vr 0, vr 0] [] V D (yback d 271 117 [vr 256, vr 81, vi i2, vr 76, vi i4, vi i5, vi i6, vi i7, vi i8, v9] [] Q))) :
    RY d 271 103 [vr 256, vr 81, vi i2, vr 76, vi i4, vi i5, vi i6, vi i7, vi i8, v9] [] V D Q := yat (c := xk_271) (hd := [2710019, 2710103]) (dk := []) (dv := []) (nb := [2710106]) rfl h
set_option maxRecDepth 20000 in
theorem u_271_117_81 {d : Nat} {i2 i4 i5 i6 i7 i8 i_0 : Int} {v9 : xV} {V : xF} {D : yD} {Q : xRes → xF → yD → Prop}
    (h : (i7 ≤ i_0 → RY d 271 103 [vr 256, vr 81, vi i2, vr 76, vi i4, vi i5, vi i6, vi i7, vi (wr (i8 + 1)), vi i_0] [] V D Q) ∧ (i_0 < i7 → RY d 271 103 [vr 256, vr 81, vi i2, vr 76, vi i4, vi i5, vi i8, vi i_0, vi (wr (i8 + 1)), vi i_0] [] V D Q)) :
    RY d 271 117 [vr 256, vr 81, vi i2, vr 76, vi i4, vi i5, vi i6, vi i7, vi i8, v9] [vi i_0] V D Q := yat (c := xk_271) (hd := [2710019, 2710103]) (dk := []) (dv := []) (nb := [2710123]) rfl h
set_option maxRecDepth 20000 in
theorem u_272_0 {d : Nat} {i1 i2 : Int} {V : xF} {D : yD} {Q : xRes → xF → yD → Prop}
    (h : RY d 272 5 [vr 405, vi i1, vi i2, vi 1, vi 0] [] V D Q) :
    RY d 272 0 [vr 405, vi i1, vi i2, vr 0, vr 0] [] V D Q := yat (c := xk_272) (hd := [2720005]) (dk := []) (dv := []) (nb := []) rfl h
set_option maxRecDepth 20000 in
theorem u_272_5 {d : Nat} {i1 i2 i3 i4 : Int} {V : xF} {D : yD} {Q : xRes → xF → yD → Prop}
    (h : ((64 : Int) ≤ i4 → ((i3 = 0 ∨ i3 = 1) ∧ Q (.inl (some (vi i3))) V D)) ∧ (i4 < 64 → ((i3 = 0 → ((i3 = 0 ∨ i3 = 1) ∧ Q (.inl (some (vi i3))) V D)) ∧ (i3 ≠ 0 → (((0 : Int) ≤ wr ((wr ((64 : Int) * i1)) + i4) ∧ wr ((wr ((64 : Int) * i1)) + i4) < (16384 : Int)) ∧ ((0 : Int) ≤ wr ((wr ((64 : Int) * i2)) + i4) ∧ wr ((wr ((64 : Int) * i2)) + i4) < (16384 : Int)) ∧ (((V 417 ((wr ((wr ((64 : Int) * i1)) + i4)).toNat)) ≠ (V 417 ((wr ((wr ((64 : Int) * i2)) + i4)).toNat)) → RY d 272 5 [vr 405, vi i1, vi i2, vi 0, vi (wr (i4 + 1))] [] V D Q) ∧ ((V 417 ((wr ((wr ((64 : Int) * i1)) + i4)).toNat)) = (V 417 ((wr ((wr ((64 : Int) * i2)) + i4)).toNat)) → RY d 272 5 [vr 405, vi i1, vi i2, vi 1, vi (wr (i4 + 1))] [] V D Q))))))) :
    RY d 272 5 [vr 405, vi i1, vi i2, vi i3, vi i4] [] V D Q := yat (c := xk_272) (hd := [2720005]) (dk := []) (dv := [2720027, 2720039, 2720056]) (nb := [2720009, 2720013, 2720040]) rfl h
set_option maxRecDepth 20000 in
theorem u_273_0 {d : Nat} {a1 : Nat} {V : xF} {D : yD} {Q : xRes → xF → yD → Prop}
    (h : a1 ≠ 0 ∧ RY d 332 0 [vr a1, vr 0, vr 0, vr 0] [] V D (yback d 273 4 [vr 76, vr a1, vr 0, vr 0] [] Q)) :
    RY d 273 0 [vr 76, vr a1, vr 0, vr 0] [] V D Q := yat (c := xk_273) (hd := []) (dk := [2730000]) (dv := []) (nb := []) rfl h
set_option maxRecDepth 20000 in
theorem u_273_4 {d : Nat} {a1 : Nat} {l_0 : Int} {V : xF} {D : yD} {Q : xRes → xF → yD → Prop}
    (h : ((xcmp (xland l_0 (D.1 76 7)) (D.1 76 7)) ≠ 0 → Q (.inl (some (vi 0))) V D) ∧ ((xcmp (xland l_0 (D.1 76 7)) (D.1 76 7)) = 0 → (((xcmp (xland l_0 (D.1 76 8)) 0) ≠ 0 → Q (.inl (some (vi 0))) V D) ∧ ((xcmp (xland l_0 (D.1 76 8)) 0) = 0 → Q (.inl (some (vi 1))) V D)))) :
    RY d 273 4 [vr 76, vr a1, vr 0, vr 0] [vl l_0] V D Q := yat (c := xk_273) (hd := []) (dk := []) (dv := []) (nb := [2730016, 2730027]) rfl h
set_option maxRecDepth 20000 in
theorem u_274_0_81 {d : Nat} {i2 i3 : Int} {V : xF} {D : yD} {Q : xRes → xF → yD → Prop}
    (h : RY d 274 3 [vr 382, vr 81, vi i2, vi i3, vi 0, vr 0, vr 0] [] V D Q) :
    RY d 274 0 [vr 382, vr 81, vi i2, vi i3, vr 0, vr 0, vr 0] [] V D Q := yat (c := xk_274) (hd := [2740003, 2740015]) (dk := []) (dv := []) (nb := []) rfl h
set_option maxRecDepth 20000 in
theorem u_274_3_81 {d : Nat} {i2 i3 i4 : Int} {v5 v6 : xV} {V : xF} {D : yD} {Q : xRes → xF → yD → Prop}
    (h : ((6 : Int) < i4 → Q (.inl (some (vi ((-1))))) V D) ∧ (i4 ≤ 6 → RY d 274 15 [vr 382, vr 81, vi i2, vi i3, vi i4, vi (wr (-i4)), v6] [] V D Q)) :
    RY d 274 3 [vr 382, vr 81, vi i2, vi i3, vi i4, v5, v6] [] V D Q := yat (c := xk_274) (hd := [2740003, 2740015]) (dk := []) (dv := []) (nb := [2740007]) rfl h
set_option maxRecDepth 20000 in
theorem u_274_15_81 {d : Nat} {i2 i3 i4 i5 : Int} {v6 : xV} {V : xF} {D : yD} {Q : xRes → xF → yD → Prop}
    (h : (i4 < i5 → RY d 274 3 [vr 382, vr 81, vi i2, vi i3, vi (wr (i4 + 1)), vi i5, v6] [] V D Q) ∧ (i5 ≤ i4 → RY d 333 0 [vr 382, vr 81, vi i2, vi i3, vi i5, vi (wr (i4 - (yr_288 i5 V D))), vr 0, vr 0, vr 0, vr 0] [] V D (yback d 274 43 [vr 382, vr 81, vi i2, vi i3, vi i4, vi i5, vi (wr (i4 - (yr_288 i5 V D)))] [] Q))) :
    RY d 274 15 [vr 382, vr 81, vi i2, vi i3, vi i4, vi i5, v6] [] V D Q := yat (c := xk_274) (hd := [2740003, 2740015]) (dk := []) (dv := []) (nb := [2740019]) rfl h
set_option maxRecDepth 20000 in
theorem u_274_43_81 {d : Nat} {i2 i3 i4 i5 i6 i_0 : Int} {V : xF} {D : yD} {Q : xRes → xF → yD → Prop}
    (h : (i_0 ≠ 0 → Q (.inl (some (vi i4))) V D) ∧ (i_0 = 0 → RY d 333 0 [vr 382, vr 81, vi i2, vi i3, vi i5, vi (wr (-i6)), vr 0, vr 0, vr 0, vr 0] [] V D (yback d 274 58 [vr 382, vr 81, vi i2, vi i3, vi i4, vi i5, vi i6] [] Q))) :
    RY d 274 43 [vr 382, vr 81, vi i2, vi i3, vi i4, vi i5, vi i6] [vi i_0] V D Q := yat (c := xk_274) (hd := [2740003, 2740015]) (dk := []) (dv := []) (nb := [2740043]) rfl h
set_option maxRecDepth 20000 in
theorem u_274_58_81 {d : Nat} {i2 i3 i4 i5 i6 i_0 : Int} {V : xF} {D : yD} {Q : xRes → xF → yD → Prop}
    (h : (i_0 = 0 → RY d 274 15 [vr 382, vr 81, vi i2, vi i3, vi i4, vi (wr (i5 + 1)), vi i6] [] V D Q) ∧ (i_0 ≠ 0 → Q (.inl (some (vi i4))) V D)) :
    RY d 274 58 [vr 382, vr 81, vi i2, vi i3, vi i4, vi i5, vi i6] [vi i_0] V D Q := yat (c := xk_274) (hd := [2740003, 2740015]) (dk := []) (dv := []) (nb := [2740058]) rfl h
set_option maxRecDepth 20000 in
theorem u_275_0 {d : Nat} {i1 i2 i3 i4 i5 i6 : Int} {V : xF} {D : yD} {Q : xRes → xF → yD → Prop}
    (h : RY d 155 0 [vr 405, vi i1, vi i2, vi i3, vr 0, vr 0, vr 0, vr 0] [] V D (yback d 275 7 [vr 405, vi i1, vi i2, vi i3, vi i4, vi i5, vi i6, vr 0] [] Q)) :
    RY d 275 0 [vr 405, vi i1, vi i2, vi i3, vi i4, vi i5, vi i6, vr 0] [] V D Q := yat (c := xk_275) (hd := []) (dk := []) (dv := []) (nb := []) rfl h
set_option maxRecDepth 20000 in
theorem u_275_7 {d : Nat} {i1 i2 i3 i4 i5 i6 i_0 : Int} {V : xF} {D : yD} {Q : xRes → xF → yD → Prop}
    (h : RY d 194 0 [vr 405, vr 0] [] V D (yback d 275 13 [vr 405, vi i1, vi i2, vi i3, vi i4, vi i5, vi i6, vi i_0] [] Q)) :
    RY d 275 7 [vr 405, vi i1, vi i2, vi i3, vi i4, vi i5, vi i6, vr 0] [vi i_0] V D Q := yat (c := xk_275) (hd := []) (dk := []) (dv := []) (nb := []) rfl h
set_option maxRecDepth 20000 in
theorem u_275_13 {d : Nat} {i1 i2 i3 i4 i5 i6 i7 : Int} {V : xF} {D : yD} {Q : xRes → xF → yD → Prop}
    (h : RY d 155 0 [vr 405, vi i4, vi i5, vi i6, vr 0, vr 0, vr 0, vr 0] [] V D (yback d 275 23 [vr 405, vi i1, vi i2, vi i3, vi i4, vi i5, vi i6, vi i7] [] Q)) :
    RY d 275 13 [vr 405, vi i1, vi i2, vi i3, vi i4, vi i5, vi i6, vi i7] [] V D Q := yat (c := xk_275) (hd := []) (dk := []) (dv := []) (nb := []) rfl h
set_option maxRecDepth 20000 in
theorem u_275_23 {d : Nat} {i1 i2 i3 i4 i5 i6 i7 i_0 : Int} {V : xF} {D : yD} {Q : xRes → xF → yD → Prop}
    (h : RY d 196 0 [vr 405, vr 0, vr 0] [] V D (yback d 275 29 [vr 405, vi i1, vi i2, vi i3, vi i4, vi i5, vi i6, vi i_0] [] Q)) :
    RY d 275 23 [vr 405, vi i1, vi i2, vi i3, vi i4, vi i5, vi i6, vi i7] [vi i_0] V D Q := yat (c := xk_275) (hd := []) (dk := []) (dv := []) (nb := []) rfl h
set_option maxRecDepth 20000 in
theorem u_275_29 {d : Nat} {i1 i2 i3 i4 i5 i6 i7 i_0 : Int} {V : xF} {D : yD} {Q : xRes → xF → yD → Prop}
    (h : (i_0 = 0 ∨ i_0 = 1) ∧ Q (.inl (some (vi i_0))) V D) :
    RY d 275 29 [vr 405, vi i1, vi i2, vi i3, vi i4, vi i5, vi i6, vi i7] [vi i_0] V D Q := yat (c := xk_275) (hd := []) (dk := []) (dv := [2750029]) (nb := []) rfl h
set_option maxRecDepth 20000 in
theorem u_276_0_81 {d : Nat} {i1 i2 : Int} {V : xF} {D : yD} {Q : xRes → xF → yD → Prop}
    (h : RY d 276 2 [vr 81, vi i1, vi i2, vi 0] [] V D Q) :
    RY d 276 0 [vr 81, vi i1, vi i2, vr 0] [] V D Q := yat (c := xk_276) (hd := [2760002]) (dk := []) (dv := []) (nb := []) rfl h
set_option maxRecDepth 20000 in
theorem u_276_2_81 {d : Nat} {i1 i2 i3 : Int} {V : xF} {D : yD} {Q : xRes → xF → yD → Prop}
    (h : ((V 81 0) ≤ i3 → Q (.inl (some (vi 1))) V D) ∧ (i3 < (V 81 0) → (yg_328_81 i3 i1 i2 V D ∧ (((yr_328_81 i3 i1 i2 V D) ≠ 0 → RY d 276 2 [vr 81, vi i1, vi i2, vi (wr (i3 + 1))] [] V D Q) ∧ ((yr_328_81 i3 i1 i2 V D) = 0 → Q (.inl (some (vi 0))) V D))))) :
    RY d 276 2 [vr 81, vi i1, vi i2, vi i3] [] V D Q := yat (c := xk_276) (hd := [2760002]) (dk := []) (dv := []) (nb := [2760007, 2760017]) rfl h
set_option maxRecDepth 20000 in
theorem u_277_0_81 {d : Nat} {i2 : Int} {V : xF} {D : yD} {Q : xRes → xF → yD → Prop}
    (h : RY d 277 5 [vr 382, vr 81, vi i2, vi 0, vi 0, vr 0] [] V D Q) :
    RY d 277 0 [vr 382, vr 81, vi i2, vr 0, vr 0, vr 0] [] V D Q := yat (c := xk_277) (hd := [2770005, 2770035]) (dk := []) (dv := []) (nb := []) rfl h
set_option maxRecDepth 20000 in
theorem u_277_5_81 {d : Nat} {i2 i3 i4 : Int} {v5 : xV} {V : xF} {D : yD} {Q : xRes → xF → yD → Prop}
    (h : ((V 81 0) ≤ i4 → Q (.inl (some (vi i3))) V D) ∧ (i4 < (V 81 0) → ((24 ≤ (yK D.2.2.1 383).1 ∧ (yK D.2.2.1 383).1 ≤ 25) ∧ ((0 : Int) ≤ i4 ∧ i4 < (5 : Int)) ∧ yR D.2.1 D.2.2.1 383 i4.toNat ≠ 0 ∧ (∀ q1 : Nat, q1 = yR D.2.1 D.2.2.1 383 i4.toNat → RY d 212 0 [vr 254, vr 81, vi i4, vi i2, vr q1, vr 0, vr 0, vr 0] [] V D (yback d 277 32 [vr 382, vr 81, vi i2, vi i3, vi i4, v5] [] Q))))) :
    RY d 277 5 [vr 382, vr 81, vi i2, vi i3, vi i4, v5] [] V D Q := yat (c := xk_277) (hd := [2770005, 2770035]) (dk := [2770028]) (dv := [2770028]) (nb := [2770011]) rfl h
set_option maxRecDepth 20000 in
theorem u_277_32_81 {d : Nat} {i2 i3 i4 : Int} {v5 : xV} {V : xF} {D : yD} {Q : xRes → xF → yD → Prop}
    (h : RY d 277 35 [vr 382, vr 81, vi i2, vi i3, vi i4, vi 0] [] V D Q) :
    RY d 277 32 [vr 382, vr 81, vi i2, vi i3, vi i4, v5] [] V D Q := yat (c := xk_277) (hd := [2770005, 2770035]) (dk := []) (dv := []) (nb := []) rfl h
set_option maxRecDepth 20000 in
theorem u_277_35_81 {d : Nat} {i2 i3 i4 i5 : Int} {V : xF} {D : yD} {Q : xRes → xF → yD → Prop}
    (h : (i4 ≤ i5 → RY d 277 5 [vr 382, vr 81, vi i2, vi i3, vi (wr (i4 + 1)), vi i5] [] V D Q) ∧ (i5 < i4 → ((24 ≤ (yK D.2.2.1 383).1 ∧ (yK D.2.2.1 383).1 ≤ 25) ∧ ((0 : Int) ≤ i4 ∧ i4 < (5 : Int)) ∧ yR D.2.1 D.2.2.1 383 i4.toNat ≠ 0 ∧ (∀ q1 : Nat, q1 = yR D.2.1 D.2.2.1 383 i4.toNat → ((24 ≤ (yK D.2.2.1 383).1 ∧ (yK D.2.2.1 383).1 ≤ 25) ∧ ((0 : Int) ≤ i5 ∧ i5 < (5 : Int)) ∧ yR D.2.1 D.2.2.1 383 i5.toNat ≠ 0 ∧ (∀ q2 : Nat, q2 = yR D.2.1 D.2.2.1 383 i5.toNat → RY d 334 0 [vr q1, vr q2, vr 0] [] V D (yback d 277 59 [vr 382, vr 81, vi i2, vi i3, vi i4, vi i5] [] Q))))))) :
    RY d 277 35 [vr 382, vr 81, vi i2, vi i3, vi i4, vi i5] [] V D Q := yat (c := xk_277) (hd := [2770005, 2770035]) (dk := [2770048, 2770055]) (dv := [2770048, 2770055]) (nb := [2770039]) rfl h
set_option maxRecDepth 20000 in
theorem u_277_59_81 {d : Nat} {i2 i3 i4 i5 i_0 : Int} {V : xF} {D : yD} {Q : xRes → xF → yD → Prop}
    (h : (i_0 = 0 → RY d 277 35 [vr 382, vr 81, vi i2, vi i3, vi i4, vi (wr (i5 + 1))] [] V D Q) ∧ (i_0 ≠ 0 → RY d 277 35 [vr 382, vr 81, vi i2, vi (wr (i3 + 1)), vi i4, vi (wr (i5 + 1))] [] V D Q)) :
    RY d 277 59 [vr 382, vr 81, vi i2, vi i3, vi i4, vi i5] [vi i_0] V D Q := yat (c := xk_277) (hd := [2770005, 2770035]) (dk := []) (dv := []) (nb := [2770059]) rfl h
set_option maxRecDepth 20000 in
theorem u_278_0_92 {d : Nat} {i2 i3 i4 : Int} {V : xF} {D : yD} {Q : xRes → xF → yD → Prop}
    (h : RY d 278 3 [vr 382, vr 92, vi i2, vi i3, vi i4, vi 0, vr 0] [] V D Q) :
    RY d 278 0 [vr 382, vr 92, vi i2, vi i3, vi i4, vr 0, vr 0] [] V D Q := yat (c := xk_278) (hd := [2780003, 2780056, 2780065]) (dk := []) (dv := []) (nb := []) rfl h
set_option maxRecDepth 20000 in
theorem u_278_3_92 {d : Nat} {i2 i3 i4 i5 : Int} {V : xF} {D : yD} {Q : xRes → xF → yD → Prop}
    (h : ((4 : Int) ≤ i5 → (yg_211_92 i3 V D ∧ RY d 212 0 [vr 254, vr 92, vi i3, vi (yr_211_92 i3 V D), vr 385, vr 0, vr 0, vr 0] [] V D (yback d 278 53 [vr 382, vr 92, vi i2, vi i3, vi i4, vi i5, vr 0] [] Q))) ∧ (i5 < 4 → (((0 : Int) ≤ wr ((wr ((4 : Int) * i2)) + i5) ∧ wr ((wr ((4 : Int) * i2)) + i5) < (20 : Int)) ∧ ((0 : Int) ≤ i5 ∧ i5 < (4 : Int)) ∧ (∀ V1 : xF, V1 = up2 V 389 i5.toNat (V 95 ((wr ((wr ((4 : Int) * i2)) + i5)).toNat)) → RY d 278 3 [vr 382, vr 92, vi i2, vi i3, vi i4, vi (wr (i5 + 1)), vr 0] [] V1 D Q)))) :
    RY d 278 3 [vr 382, vr 92, vi i2, vi i3, vi i4, vi i5, vr 0] [] V D Q := yat (c := xk_278) (hd := [2780003, 2780056, 2780065]) (dk := []) (dv := [2780025, 2780026]) (nb := [2780006]) rfl h
set_option maxRecDepth 20000 in
theorem u_278_53_92 {d : Nat} {i2 i3 i4 i5 : Int} {V : xF} {D : yD} {Q : xRes → xF → yD → Prop}
    (h : RY d 278 56 [vr 382, vr 92, vi i2, vi i3, vi i4, vi 0, vr 0] [] V D Q) :
    RY d 278 53 [vr 382, vr 92, vi i2, vi i3, vi i4, vi i5, vr 0] [] V D Q := yat (c := xk_278) (hd := [2780003, 2780056, 2780065]) (dk := []) (dv := []) (nb := []) rfl h
set_option maxRecDepth 20000 in
theorem u_278_56_92 {d : Nat} {i2 i3 i4 i5 : Int} {v6 : xV} {V : xF} {D : yD} {Q : xRes → xF → yD → Prop}
    (h : ((4 : Int) < i5 → Q (.inl (some (vi ((-1))))) V D) ∧ (i5 ≤ 4 → RY d 278 65 [vr 382, vr 92, vi i2, vi i3, vi i4, vi i5, vi 0] [] V D Q)) :
    RY d 278 56 [vr 382, vr 92, vi i2, vi i3, vi i4, vi i5, v6] [] V D Q := yat (c := xk_278) (hd := [2780003, 2780056, 2780065]) (dk := []) (dv := []) (nb := [2780059]) rfl h
set_option maxRecDepth 20000 in
theorem u_278_65_92 {d : Nat} {i2 i3 i4 i5 i6 : Int} {V : xF} {D : yD} {Q : xRes → xF → yD → Prop}
    (h : ((625 : Int) ≤ i6 → RY d 278 56 [vr 382, vr 92, vi i2, vi i3, vi i4, vi (wr (i5 + 1)), vi i6] [] V D Q) ∧ (i6 < 625 → RY d 335 0 [vr 382, vr 92, vi i2, vi i6, vr 0, vr 0, vr 0] [] V D (yback d 278 81 [vr 382, vr 92, vi i2, vi i3, vi i4, vi i5, vi i6] [] Q))) :
    RY d 278 65 [vr 382, vr 92, vi i2, vi i3, vi i4, vi i5, vi i6] [] V D Q := yat (c := xk_278) (hd := [2780003, 2780056, 2780065]) (dk := []) (dv := []) (nb := [2780070]) rfl h
set_option maxRecDepth 20000 in
theorem u_278_81_92 {d : Nat} {i2 i3 i4 i5 i6 i_0 : Int} {V : xF} {D : yD} {Q : xRes → xF → yD → Prop}
    (h : (i_0 ≠ i5 → RY d 278 65 [vr 382, vr 92, vi i2, vi i3, vi i4, vi i5, vi (wr (i6 + 1))] [] V D Q) ∧ (i_0 = i5 → RY d 336 0 [vr 382, vr 92, vi i2] [] V D (yback d 278 92 [vr 382, vr 92, vi i2, vi i3, vi i4, vi i5, vi i6] [] Q))) :
    RY d 278 81 [vr 382, vr 92, vi i2, vi i3, vi i4, vi i5, vi i6] [vi i_0] V D Q := yat (c := xk_278) (hd := [2780003, 2780056, 2780065]) (dk := []) (dv := []) (nb := [2780083]) rfl h
set_option maxRecDepth 20000 in
theorem u_278_92_92 {d : Nat} {i2 i3 i4 i5 i6 i_0 : Int} {V : xF} {D : yD} {Q : xRes → xF → yD → Prop}
    (h : (i_0 = 0 → RY d 278 65 [vr 382, vr 92, vi i2, vi i3, vi i4, vi i5, vi (wr (i6 + 1))] [] V D Q) ∧ (i_0 ≠ 0 → ((i4 = 0 → Q (.inl (some (vi i6))) V D) ∧ (i4 ≠ 0 → Q (.inl (some (vi i5))) V D)))) :
    RY d 278 92 [vr 382, vr 92, vi i2, vi i3, vi i4, vi i5, vi i6] [vi i_0] V D Q := yat (c := xk_278) (hd := [2780003, 2780056, 2780065]) (dk := []) (dv := []) (nb := [2780092, 2780097]) rfl h
set_option maxRecDepth 20000 in
theorem u_279_0_81 {d : Nat} {i1 : Int} {V : xF} {D : yD} {Q : xRes → xF → yD → Prop}
    (h : RY d 279 4 [vr 81, vi i1, vi i1, vi 0] [] V D Q) :
    RY d 279 0 [vr 81, vi i1, vr 0, vr 0] [] V D Q := yat (c := xk_279) (hd := [2790004]) (dk := []) (dv := []) (nb := []) rfl h
set_option maxRecDepth 20000 in
theorem u_279_4_81 {d : Nat} {i1 i2 i3 : Int} {V : xF} {D : yD} {Q : xRes → xF → yD → Prop}
    (h : ((V 81 0) ≤ i3 → Q (.inl (some (vi i2))) V D) ∧ (i3 < (V 81 0) → (((xand (xshr i1 i3) 1) ≠ 1 → RY d 279 4 [vr 81, vi i1, vi i2, vi (wr (i3 + 1))] [] V D Q) ∧ ((xand (xshr i1 i3) 1) = 1 → (((0 : Int) ≤ i3 ∧ i3 < (5 : Int)) ∧ RY d 279 4 [vr 81, vi i1, vi (xor_ i2 (V 86 i3.toNat)), vi (wr (i3 + 1))] [] V D Q))))) :
    RY d 279 4 [vr 81, vi i1, vi i2, vi i3] [] V D Q := yat (c := xk_279) (hd := [2790004]) (dk := []) (dv := [2790027]) (nb := [2790009, 2790018]) rfl h
set_option maxRecDepth 20000 in
theorem u_280_0_81 {d : Nat} {i2 : Int} {V : xF} {D : yD} {Q : xRes → xF → yD → Prop}
    (h : (24 ≤ (yK D.2.2.1 395).1 ∧ (yK D.2.2.1 395).1 ≤ 25) ∧ ((0 : Int) ≤ V 81 6 ∧ V 81 6 < (6 : Int)) ∧ yR D.2.1 D.2.2.1 395 ((V 81 6).toNat) ≠ 0 ∧ (∀ q1 : Nat, q1 = yR D.2.1 D.2.2.1 395 ((V 81 6).toNat) → RY d 286 0 [vr q1, vi 0, vr 0, vr 0] [] V D (yback d 280 13 [vr 390, vr 81, vi i2, vr 0, vr 0, vr 0, vr 0] [] Q))) :
    RY d 280 0 [vr 390, vr 81, vi i2, vr 0, vr 0, vr 0, vr 0] [] V D Q := yat (c := xk_280) (hd := [2800020, 2800035, 2800065]) (dk := [2800008]) (dv := [2800008]) (nb := []) rfl h
set_option maxRecDepth 20000 in
theorem u_280_13_81 {d : Nat} {i2 : Int} {V : xF} {D : yD} {Q : xRes → xF → yD → Prop}
    (h : RY d 280 20 [vr 390, vr 81, vi i2, vi (wr ((V 81 6) - 1)), vr 0, vr 0, vr 0] [] V D Q) :
    RY d 280 13 [vr 390, vr 81, vi i2, vr 0, vr 0, vr 0, vr 0] [] V D Q := yat (c := xk_280) (hd := [2800020, 2800035, 2800065]) (dk := []) (dv := []) (nb := []) rfl h
set_option maxRecDepth 20000 in
theorem u_280_20_81 {d : Nat} {i2 i3 : Int} {v4 v5 v6 : xV} {V : xF} {D : yD} {Q : xRes → xF → yD → Prop}
    (h : (i3 < 0 → ((i2 ≠ ((-1)) → RY d 338 0 [vr 390, vr 81, vi i2, vr 0, vr 0, vr 0, vr 0, vr 0] [] V D (yback d 280 172 [vr 390, vr 81, vi i2, vi i3, v4, v5, v6] [] Q)) ∧ (i2 = ((-1)) → Q (.inl (some (vi (V 396 0)))) V D))) ∧ ((0 : Int) ≤ i3 → RY d 337 0 [vr 390, vr 81, vi i3, vr 0, vr 0] [] V D (yback d 280 30 [vr 390, vr 81, vi i2, vi i3, v4, v5, v6] [] Q))) :
    RY d 280 20 [vr 390, vr 81, vi i2, vi i3, v4, v5, v6] [] V D Q := yat (c := xk_280) (hd := [2800020, 2800035, 2800065]) (dk := []) (dv := []) (nb := [2800021, 2800152]) rfl h
set_option maxRecDepth 20000 in
theorem u_280_30_81 {d : Nat} {i2 i3 i_0 : Int} {v4 v5 v6 : xV} {V : xF} {D : yD} {Q : xRes → xF → yD → Prop}
    (h : RY d 280 35 [vr 390, vr 81, vi i2, vi i3, vi i_0, vi 0, v6] [] V D Q) :
    RY d 280 30 [vr 390, vr 81, vi i2, vi i3, v4, v5, v6] [vi i_0] V D Q := yat (c := xk_280) (hd := [2800020, 2800035, 2800065]) (dk := []) (dv := []) (nb := []) rfl h
set_option maxRecDepth 20000 in
theorem u_280_35_81 {d : Nat} {i2 i3 i4 i5 : Int} {v6 : xV} {V : xF} {D : yD} {Q : xRes → xF → yD → Prop}
    (h : ((32 : Int) ≤ i5 → RY d 280 20 [vr 390, vr 81, vi i2, vi (wr (i3 + (-1))), vi i4, vi i5, v6] [] V D Q) ∧ (i5 < 32 → ((24 ≤ (yK D.2.2.1 395).1 ∧ (yK D.2.2.1 395).1 ≤ 25) ∧ ((0 : Int) ≤ i3 ∧ i3 < (6 : Int)) ∧ yR D.2.1 D.2.2.1 395 i3.toNat ≠ 0 ∧ (∀ q1 : Nat, q1 = yR D.2.1 D.2.2.1 395 i3.toNat → ((24 ≤ (yK D.2.2.1 395).1 ∧ (yK D.2.2.1 395).1 ≤ 25) ∧ ((0 : Int) ≤ wr (i3 + 1) ∧ wr (i3 + 1) < (6 : Int)) ∧ yR D.2.1 D.2.2.1 395 ((wr (i3 + 1)).toNat) ≠ 0 ∧ (∀ q2 : Nat, q2 = yR D.2.1 D.2.2.1 395 ((wr (i3 + 1)).toNat) → ((20 ≤ (yK D.2.2.1 q2).1 ∧ (yK D.2.2.1 q2).1 ≤ 21) ∧ ((0 : Int) ≤ i5 ∧ i5 < ((yK D.2.2.1 q2).2 : Int)) ∧ (yK D.2.2.1 q1).1 = 20 ∧ ((0 : Int) ≤ i5 ∧ i5 < ((yK D.2.2.1 q1).2 : Int)) ∧ (∀ V3 : xF, V3 = up2 V q1 i5.toNat (V q2 i5.toNat) → RY d 280 65 [vr 390, vr 81, vi i2, vi i3, vi i4, vi i5, vi 0] [] V3 D Q)))))))) :
    RY d 280 35 [vr 390, vr 81, vi i2, vi i3, vi i4, vi i5, v6] [] V D Q := yat (c := xk_280) (hd := [2800020, 2800035, 2800065]) (dk := [2800047, 2800057, 2800060, 2800061]) (dv := [2800047, 2800057, 2800060, 2800061]) (nb := [2800039]) rfl h
set_option maxRecDepth 20000 in
theorem u_280_65_81 {d : Nat} {i2 i3 i4 i5 i6 : Int} {V : xF} {D : yD} {Q : xRes → xF → yD → Prop}
    (h : ((V 81 0) ≤ i6 → RY d 280 35 [vr 390, vr 81, vi i2, vi i3, vi i4, vi (wr (i5 + 1)), vi i6] [] V D Q) ∧ (i6 < (V 81 0) → (((xand (xshr (xor_ i4 i5) i6) 1) ≠ 0 → RY d 280 65 [vr 390, vr 81, vi i2, vi i3, vi i4, vi i5, vi (wr (i6 + 1))] [] V D Q) ∧ ((xand (xshr (xor_ i4 i5) i6) 1) = 0 → ((24 ≤ (yK D.2.2.1 395).1 ∧ (yK D.2.2.1 395).1 ≤ 25) ∧ ((0 : Int) ≤ i3 ∧ i3 < (6 : Int)) ∧ yR D.2.1 D.2.2.1 395 i3.toNat ≠ 0 ∧ (∀ q1 : Nat, q1 = yR D.2.1 D.2.2.1 395 i3.toNat → ((24 ≤ (yK D.2.2.1 395).1 ∧ (yK D.2.2.1 395).1 ≤ 25) ∧ ((0 : Int) ≤ i3 ∧ i3 < (6 : Int)) ∧ yR D.2.1 D.2.2.1 395 i3.toNat ≠ 0 ∧ (∀ q2 : Nat, q2 = yR D.2.1 D.2.2.1 395 i3.toNat → ((20 ≤ (yK D.2.2.1 q2).1 ∧ (yK D.2.2.1 q2).1 ≤ 21) ∧ ((0 : Int) ≤ i5 ∧ i5 < ((yK D.2.2.1 q2).2 : Int)) ∧ ((0 : Int) ≤ i6 ∧ i6 < (5 : Int)) ∧ (24 ≤ (yK D.2.2.1 395).1 ∧ (yK D.2.2.1 395).1 ≤ 25) ∧ ((0 : Int) ≤ wr (i3 + 1) ∧ wr (i3 + 1) < (6 : Int)) ∧ yR D.2.1 D.2.2.1 395 ((wr (i3 + 1)).toNat) ≠ 0 ∧ (∀ q3 : Nat, q3 = yR D.2.1 D.2.2.1 395 ((wr (i3 + 1)).toNat) → ((20 ≤ (yK D.2.2.1 q3).1 ∧ (yK D.2.2.1 q3).1 ≤ 21) ∧ ((0 : Int) ≤ xor_ i5 (xshl 1 i6) ∧ xor_ i5 (xshl 1 i6) < ((yK D.2.2.1 q3).2 : Int)) ∧ (yK D.2.2.1 q1).1 = 20 ∧ ((0 : Int) ≤ i5 ∧ i5 < ((yK D.2.2.1 q1).2 : Int)) ∧ (∀ V4 : xF, V4 = up2 V q1 i5.toNat (yr_292 (V q2 i5.toNat) (wr ((V 85 i6.toNat) + (V q3 ((xor_ i5 (xshl 1 i6)).toNat)))) V D) → RY d 280 65 [vr 390, vr 81, vi i2, vi i3, vi i4, vi i5, vi (wr (i6 + 1))] [] V4 D Q)))))))))))) :
    RY d 280 65 [vr 390, vr 81, vi i2, vi i3, vi i4, vi i5, vi i6] [] V D Q := yat (c := xk_280) (hd := [2800020, 2800035, 2800065]) (dk := [2800092, 2800100, 2800103, 2800118, 2800126, 2800131]) (dv := [2800092, 2800100, 2800103, 2800110, 2800118, 2800126, 2800131]) (nb := [2800071, 2800084]) rfl h
set_option maxRecDepth 20000 in
theorem u_280_172_81 {d : Nat} {i2 i3 i_0 : Int} {v4 v5 v6 : xV} {V : xF} {D : yD} {Q : xRes → xF → yD → Prop}
    (h : Q (.inl (some (vi i_0))) V D) :
    RY d 280 172 [vr 390, vr 81, vi i2, vi i3, v4, v5, v6] [vi i_0] V D Q := yat (c := xk_280) (hd := [2800020, 2800035, 2800065]) (dk := []) (dv := []) (nb := []) rfl h
set_option maxRecDepth 20000 in
theorem u_281_0_81 {d : Nat} {i2 i3 : Int} {V : xF} {D : yD} {Q : xRes → xF → yD → Prop}
    (h : RY d 281 9 [vr 390, vr 81, vi i2, vi i3, vi ((-1)), vi 0, vi 0, vr 0] [] V D Q) :
    RY d 281 0 [vr 390, vr 81, vi i2, vi i3, vr 0, vr 0, vr 0, vr 0] [] V D Q := yat (c := xk_281) (hd := [2810009]) (dk := []) (dv := []) (nb := []) rfl h
set_option maxRecDepth 20000 in
theorem u_281_9_81 {d : Nat} {i2 i3 i4 i5 i6 : Int} {v7 : xV} {V : xF} {D : yD} {Q : xRes → xF → yD → Prop}
    (h : ((V 81 0) ≤ i6 → Q (.inl (some (vi i4))) V D) ∧ (i6 < (V 81 0) → (((xand (xshr i3 i6) 1) ≠ 0 → RY d 281 9 [vr 390, vr 81, vi i2, vi i3, vi i4, vi i5, vi (wr (i6 + 1)), v7] [] V D Q) ∧ ((xand (xshr i3 i6) 1) = 0 → (((0 : Int) ≤ i6 ∧ i6 < (5 : Int)) ∧ RY d 249 0 [vr 390, vr 81, vi i2, vi i6, vi (V 85 i6.toNat)] [] V D (yback d 281 42 [vr 390, vr 81, vi i2, vi i3, vi i4, vi i5, vi i6, v7] [] Q)))))) :
    RY d 281 9 [vr 390, vr 81, vi i2, vi i3, vi i4, vi i5, vi i6, v7] [] V D Q := yat (c := xk_281) (hd := [2810009]) (dk := []) (dv := [2810038]) (nb := [2810015, 2810024]) rfl h
set_option maxRecDepth 20000 in
theorem u_281_42_81 {d : Nat} {i2 i3 i4 i5 i6 i_0 : Int} {v7 : xV} {V : xF} {D : yD} {Q : xRes → xF → yD → Prop}
    (h : (i_0 ≠ 0 → RY d 281 9 [vr 390, vr 81, vi i2, vi i3, vi i4, vi i5, vi (wr (i6 + 1)), v7] [] V D Q) ∧ (i_0 = 0 → (((0 : Int) ≤ i6 ∧ i6 < (5 : Int)) ∧ RY d 248 0 [vr 390, vr 81, vi i2, vi i6, vi (V 85 i6.toNat), vr 0] [] V D (yback d 281 60 [vr 390, vr 81, vi i2, vi i3, vi i4, vi i5, vi i6, v7] [] Q)))) :
    RY d 281 42 [vr 390, vr 81, vi i2, vi i3, vi i4, vi i5, vi i6, v7] [vi i_0] V D Q := yat (c := xk_281) (hd := [2810009]) (dk := []) (dv := [2810056]) (nb := [2810042]) rfl h
set_option maxRecDepth 20000 in
theorem u_281_60_81 {d : Nat} {i2 i3 i4 i5 i6 i_0 : Int} {v7 : xV} {V : xF} {D : yD} {Q : xRes → xF → yD → Prop}
    (h : (i4 = ((-1)) → RY d 281 9 [vr 390, vr 81, vi i2, vi i3, vi i6, vi i_0, vi (wr (i6 + 1)), vi i_0] [] V D Q) ∧ (i4 ≠ ((-1)) → ((i_0 ≤ i5 → RY d 281 9 [vr 390, vr 81, vi i2, vi i3, vi i4, vi i5, vi (wr (i6 + 1)), vi i_0] [] V D Q) ∧ (i5 < i_0 → RY d 281 9 [vr 390, vr 81, vi i2, vi i3, vi i6, vi i_0, vi (wr (i6 + 1)), vi i_0] [] V D Q)))) :
    RY d 281 60 [vr 390, vr 81, vi i2, vi i3, vi i4, vi i5, vi i6, v7] [vi i_0] V D Q := yat (c := xk_281) (hd := [2810009]) (dk := []) (dv := []) (nb := [2810065, 2810072]) rfl h
set_option maxRecDepth 20000 in
theorem u_281_0_92 {d : Nat} {i2 i3 : Int} {V : xF} {D : yD} {Q : xRes → xF → yD → Prop}
    (h : RY d 281 9 [vr 390, vr 92, vi i2, vi i3, vi ((-1)), vi 0, vi 0, vr 0] [] V D Q) :
    RY d 281 0 [vr 390, vr 92, vi i2, vi i3, vr 0, vr 0, vr 0, vr 0] [] V D Q := yat (c := xk_281) (hd := [2810009]) (dk := []) (dv := []) (nb := []) rfl h
set_option maxRecDepth 20000 in
theorem u_281_9_92 {d : Nat} {i2 i3 i4 i5 i6 : Int} {v7 : xV} {V : xF} {D : yD} {Q : xRes → xF → yD → Prop}
    (h : ((V 92 0) ≤ i6 → Q (.inl (some (vi i4))) V D) ∧ (i6 < (V 92 0) → (((xand (xshr i3 i6) 1) ≠ 0 → RY d 281 9 [vr 390, vr 92, vi i2, vi i3, vi i4, vi i5, vi (wr (i6 + 1)), v7] [] V D Q) ∧ ((xand (xshr i3 i6) 1) = 0 → (((0 : Int) ≤ i6 ∧ i6 < (5 : Int)) ∧ RY d 249 0 [vr 390, vr 92, vi i2, vi i6, vi (V 96 i6.toNat)] [] V D (yback d 281 42 [vr 390, vr 92, vi i2, vi i3, vi i4, vi i5, vi i6, v7] [] Q)))))) :
    RY d 281 9 [vr 390, vr 92, vi i2, vi i3, vi i4, vi i5, vi i6, v7] [] V D Q := yat (c := xk_281) (hd := [2810009]) (dk := []) (dv := [2810038]) (nb := [2810015, 2810024]) rfl h
set_option maxRecDepth 20000 in
theorem u_281_42_92 {d : Nat} {i2 i3 i4 i5 i6 i_0 : Int} {v7 : xV} {V : xF} {D : yD} {Q : xRes → xF → yD → Prop}
    (h : (i_0 ≠ 0 → RY d 281 9 [vr 390, vr 92, vi i2, vi i3, vi i4, vi i5, vi (wr (i6 + 1)), v7] [] V D Q) ∧ (i_0 = 0 → (((0 : Int) ≤ i6 ∧ i6 < (5 : Int)) ∧ RY d 248 0 [vr 390, vr 92, vi i2, vi i6, vi (V 96 i6.toNat), vr 0] [] V D (yback d 281 60 [vr 390, vr 92, vi i2, vi i3, vi i4, vi i5, vi i6, v7] [] Q)))) :
    RY d 281 42 [vr 390, vr 92, vi i2, vi i3, vi i4, vi i5, vi i6, v7] [vi i_0] V D Q := yat (c := xk_281) (hd := [2810009]) (dk := []) (dv := [2810056]) (nb := [2810042]) rfl h
set_option maxRecDepth 20000 in
theorem u_281_60_92 {d : Nat} {i2 i3 i4 i5 i6 i_0 : Int} {v7 : xV} {V : xF} {D : yD} {Q : xRes → xF → yD → Prop}
    (h : (i4 = ((-1)) → RY d 281 9 [vr 390, vr 92, vi i2, vi i3, vi i6, vi i_0, vi (wr (i6 + 1)), vi i_0] [] V D Q) ∧ (i4 ≠ ((-1)) → ((i_0 ≤ i5 → RY d 281 9 [vr 390, vr 92, vi i2, vi i3, vi i4, vi i5, vi (wr (i6 + 1)), vi i_0] [] V D Q) ∧ (i5 < i_0 → RY d 281 9 [vr 390, vr 92, vi i2, vi i3, vi i6, vi i_0, vi (wr (i6 + 1)), vi i_0] [] V D Q)))) :
    RY d 281 60 [vr 390, vr 92, vi i2, vi i3, vi i4, vi i5, vi i6, v7] [vi i_0] V D Q := yat (c := xk_281) (hd := [2810009]) (dk := []) (dv := []) (nb := [2810065, 2810072]) rfl h
set_option maxRecDepth 20000 in
theorem u_282_0_81 {d : Nat} {i2 i3 : Int} {V : xF} {D : yD} {Q : xRes → xF → yD → Prop}
    (h : RY d 282 6 [vr 390, vr 81, vi i2, vi i3, vi 0, vi 0] [] V D Q) :
    RY d 282 0 [vr 390, vr 81, vi i2, vi i3, vr 0, vr 0] [] V D Q := yat (c := xk_282) (hd := [2820006]) (dk := []) (dv := []) (nb := []) rfl h
set_option maxRecDepth 20000 in
theorem u_282_6_81 {d : Nat} {i2 i3 i4 i5 : Int} {V : xF} {D : yD} {Q : xRes → xF → yD → Prop}
    (h : ((V 81 6) ≤ i5 → Q (.inl (some (vi (wr (i3 * i4))))) V D) ∧ (i5 < (V 81 6) → RY d 249 0 [vr 390, vr 81, vi i5, vi i2, vi i3] [] V D (yback d 282 24 [vr 390, vr 81, vi i2, vi i3, vi i4, vi i5] [] Q))) :
    RY d 282 6 [vr 390, vr 81, vi i2, vi i3, vi i4, vi i5] [] V D Q := yat (c := xk_282) (hd := [2820006]) (dk := []) (dv := []) (nb := [2820012]) rfl h
set_option maxRecDepth 20000 in
theorem u_282_24_81 {d : Nat} {i2 i3 i4 i5 i_0 : Int} {V : xF} {D : yD} {Q : xRes → xF → yD → Prop}
    (h : (i_0 ≠ 0 → RY d 282 6 [vr 390, vr 81, vi i2, vi i3, vi i4, vi (wr (i5 + 1))] [] V D Q) ∧ (i_0 = 0 → RY d 248 0 [vr 390, vr 81, vi i5, vi i2, vi i3, vr 0] [] V D (yback d 282 36 [vr 390, vr 81, vi i2, vi i3, vi i4, vi i5] [] Q))) :
    RY d 282 24 [vr 390, vr 81, vi i2, vi i3, vi i4, vi i5] [vi i_0] V D Q := yat (c := xk_282) (hd := [2820006]) (dk := []) (dv := []) (nb := [2820024]) rfl h
set_option maxRecDepth 20000 in
theorem u_282_36_81 {d : Nat} {i2 i3 i4 i5 i_0 : Int} {V : xF} {D : yD} {Q : xRes → xF → yD → Prop}
    (h : (i_0 < 0 → RY d 282 6 [vr 390, vr 81, vi i2, vi i3, vi i4, vi (wr (i5 + 1))] [] V D Q) ∧ ((0 : Int) ≤ i_0 → RY d 282 6 [vr 390, vr 81, vi i2, vi i3, vi (wr (i4 + 1)), vi (wr (i5 + 1))] [] V D Q)) :
    RY d 282 36 [vr 390, vr 81, vi i2, vi i3, vi i4, vi i5] [vi i_0] V D Q := yat (c := xk_282) (hd := [2820006]) (dk := []) (dv := []) (nb := [2820036]) rfl h
set_option maxRecDepth 20000 in
theorem u_283_0 {d : Nat} {i1 i2 : Int} {V : xF} {D : yD} {Q : xRes → xF → yD → Prop}
    (h : (i1 ≠ i2 → Q (.inl none) V D) ∧ (i1 = i2 → Q (.inr 0) V (D.1, D.2.1, D.2.2.1, D.2.2.2.1, D.2.2.2.2.1 + 1, D.2.2.2.2.2 + 6))) :
    RY d 283 0 [vr 70, vi i1, vi i2] [] V D Q := yat (c := xk_283) (hd := []) (dk := []) (dv := []) (nb := [2830002]) rfl h
set_option maxRecDepth 20000 in
theorem u_284_0_81 {d : Nat} {i2 i3 i4 : Int} {V : xF} {D : yD} {Q : xRes → xF → yD → Prop}
    (h : ((0 : Int) ≤ i4 ∧ i4 < (5 : Int)) ∧ RY d 248 0 [vr 390, vr 81, vi i2, vi i4, vi (V 85 i4.toNat), vr 0] [] V D (yback d 284 15 [vr 390, vr 81, vi i2, vi i3, vi i4, vr 0, vr 0, vr 0, vr 0, vr 0, vr 0, vr 0] [] Q)) :
    RY d 284 0 [vr 390, vr 81, vi i2, vi i3, vi i4, vr 0, vr 0, vr 0, vr 0, vr 0, vr 0, vr 0] [] V D Q := yat (c := xk_284) (hd := [2840057]) (dk := []) (dv := [2840011]) (nb := []) rfl h
set_option maxRecDepth 20000 in
theorem u_284_15_81 {d : Nat} {i2 i3 i4 i_0 : Int} {V : xF} {D : yD} {Q : xRes → xF → yD → Prop}
    (h : ((0 : Int) ≤ i4 ∧ i4 < (5 : Int)) ∧ RY d 248 0 [vr 390, vr 81, vi i3, vi i4, vi (V 85 i4.toNat), vr 0] [] V D (yback d 284 32 [vr 390, vr 81, vi i2, vi i3, vi i4, vi i_0, vr 0, vr 0, vr 0, vr 0, vr 0, vr 0] [] Q)) :
    RY d 284 15 [vr 390, vr 81, vi i2, vi i3, vi i4, vr 0, vr 0, vr 0, vr 0, vr 0, vr 0, vr 0] [vi i_0] V D Q := yat (c := xk_284) (hd := [2840057]) (dk := []) (dv := [2840028]) (nb := []) rfl h
set_option maxRecDepth 20000 in
theorem u_284_32_81 {d : Nat} {i2 i3 i4 i5 i_0 : Int} {V : xF} {D : yD} {Q : xRes → xF → yD → Prop}
    (h : ((0 : Int) ≤ i2 ∧ i2 < (5 : Int)) ∧ ((0 : Int) ≤ i3 ∧ i3 < (5 : Int)) ∧ RY d 284 57 [vr 390, vr 81, vi i2, vi i3, vi i4, vi i5, vi i_0, vi (yr_339 (V 87 i2.toNat) (V 87 i3.toNat) V D), vi 0, vi 0, vr 0, vr 0] [] V D Q) :
    RY d 284 32 [vr 390, vr 81, vi i2, vi i3, vi i4, vi i5, vr 0, vr 0, vr 0, vr 0, vr 0, vr 0] [vi i_0] V D Q := yat (c := xk_284) (hd := [2840057]) (dk := []) (dv := [2840039, 2840045]) (nb := []) rfl h
set_option maxRecDepth 20000 in
theorem u_284_57_81 {d : Nat} {i2 i3 i4 i5 i6 i7 i8 i9 : Int} {v10 v11 : xV} {V : xF} {D : yD} {Q : xRes → xF → yD → Prop}
    (h : ((4 : Int) ≤ i9 → Q (.inl (some (vi i8))) V D) ∧ (i9 < 4 → (((yr_340 (wr (i9.tdiv 2)) (i9.tmod 2) i5 i7 V D) < (yr_340 (wr ((1 : Int) - (wr (i9.tdiv 2)))) (i9.tmod 2) i5 i7 V D) → RY d 284 57 [vr 390, vr 81, vi i2, vi i3, vi i4, vi i5, vi i6, vi i7, vi i8, vi (wr (i9 + 1)), vi (wr (i9.tdiv 2)), vi (i9.tmod 2)] [] V D Q) ∧ ((yr_340 (wr ((1 : Int) - (wr (i9.tdiv 2)))) (i9.tmod 2) i5 i7 V D) ≤ (yr_340 (wr (i9.tdiv 2)) (i9.tmod 2) i5 i7 V D) → (((yr_340 (i9.tmod 2) (wr (i9.tdiv 2)) i6 (wr (-i7)) V D) < (yr_340 (wr ((1 : Int) - (i9.tmod 2))) (wr (i9.tdiv 2)) i6 (wr (-i7)) V D) → RY d 284 57 [vr 390, vr 81, vi i2, vi i3, vi i4, vi i5, vi i6, vi i7, vi i8, vi (wr (i9 + 1)), vi (wr (i9.tdiv 2)), vi (i9.tmod 2)] [] V D Q) ∧ ((yr_340 (wr ((1 : Int) - (i9.tmod 2))) (wr (i9.tdiv 2)) i6 (wr (-i7)) V D) ≤ (yr_340 (i9.tmod 2) (wr (i9.tdiv 2)) i6 (wr (-i7)) V D) → RY d 284 57 [vr 390, vr 81, vi i2, vi i3, vi i4, vi i5, vi i6, vi i7, vi (xor_ i8 (xshl 1 i9)), vi (wr (i9 + 1)), vi (wr (i9.tdiv 2)), vi (i9.tmod 2)] [] V D Q)))))) :
    RY d 284 57 [vr 390, vr 81, vi i2, vi i3, vi i4, vi i5, vi i6, vi i7, vi i8, vi i9, v10, v11] [] V D Q := yat (c := xk_284) (hd := [2840057]) (dk := []) (dv := []) (nb := [2840060, 2840099, 2840128]) rfl h
set_option maxRecDepth 20000 in
theorem u_285_0 {d : Nat} {i0 i1 i2 : Int} {V : xF} {D : yD} {Q : xRes → xF → yD → Prop}
    (h : RY d 285 8 [vi i0, vi i1, vi i2, vl 1, vr 0, vl 0, vr 0, vi 0, vr 0] [] V D Q) :
    RY d 285 0 [vi i0, vi i1, vi i2, vr 0, vr 0, vr 0, vr 0, vr 0, vr 0] [] V D Q := yat (c := xk_285) (hd := [2850008]) (dk := []) (dv := []) (nb := []) rfl h
set_option maxRecDepth 20000 in
theorem u_285_8 {d : Nat} {i0 i1 i2 i7 : Int} {l3 l5 : Int} {V : xF} {D : yD} {Q : xRes → xF → yD → Prop}
    (h : (i1 < i7 → RY d 341 0 [vl 100, vr 0, vi i1, vr 0, vr 0, vr 0] [] V D (yback d 285 75 [vi i0, vi i1, vi i2, vl l3, vr 0, vl l5, vr 0, vi i7, vr 0] [vl 1] Q)) ∧ (i7 ≤ i1 → ((i7 < i2 → ((wr (i7 + 1)) ≠ 0 ∧ RY d 285 8 [vi i0, vi i1, vi i2, vl (wl ((wl (l3 * (wr (i1 - i7)))).tdiv (wr (i7 + 1)))), vr 0, vl l5, vr 0, vi (wr (i7 + 1)), vr 0] [] V D Q)) ∧ (i2 ≤ i7 → RY d 341 0 [vl i0, vr 0, vi i7, vr 0, vr 0, vr 0] [] V D (yback d 285 30 [vi i0, vi i1, vi i2, vl l3, vr 0, vl l5, vr 0, vi i7, vr 0] [vl l3, vl l5] Q))))) :
    RY d 285 8 [vi i0, vi i1, vi i2, vl l3, vr 0, vl l5, vr 0, vi i7, vr 0] [] V D Q := yat (c := xk_285) (hd := [2850008]) (dk := []) (dv := [2850059]) (nb := [2850011, 2850017]) rfl h
set_option maxRecDepth 20000 in
theorem u_285_30 {d : Nat} {i0 i1 i2 i7 : Int} {l3 l5 l_0 l_1 l_2 : Int} {V : xF} {D : yD} {Q : xRes → xF → yD → Prop}
    (h : RY d 341 0 [vl (wr ((100 : Int) - i0)), vr 0, vi (wr (i1 - i7)), vr 0, vr 0, vr 0] [] V D (yback d 285 43 [vi i0, vi i1, vi i2, vl l3, vr 0, vl l5, vr 0, vi i7, vr 0] [vl (wl (l_1 * l_2)), vl l_0] Q)) :
    RY d 285 30 [vi i0, vi i1, vi i2, vl l3, vr 0, vl l5, vr 0, vi i7, vr 0] [vl l_2, vl l_1, vl l_0] V D Q := yat (c := xk_285) (hd := [2850008]) (dk := []) (dv := []) (nb := []) rfl h
set_option maxRecDepth 20000 in
theorem u_285_43 {d : Nat} {i0 i1 i2 i7 : Int} {l3 l5 l_0 l_1 l_2 : Int} {V : xF} {D : yD} {Q : xRes → xF → yD → Prop}
    (h : (wr (i7 + 1)) ≠ 0 ∧ RY d 285 8 [vi i0, vi i1, vi i2, vl (wl ((wl (l3 * (wr (i1 - i7)))).tdiv (wr (i7 + 1)))), vr 0, vl (wl (l_0 + (wl (l_1 * l_2)))), vr 0, vi (wr (i7 + 1)), vr 0] [] V D Q) :
    RY d 285 43 [vi i0, vi i1, vi i2, vl l3, vr 0, vl l5, vr 0, vi i7, vr 0] [vl l_2, vl l_1, vl l_0] V D Q := yat (c := xk_285) (hd := [2850008]) (dk := []) (dv := [2850059]) (nb := []) rfl h
set_option maxRecDepth 20000 in
theorem u_285_75 {d : Nat} {i0 i1 i2 i7 : Int} {l3 l5 l_0 l_1 : Int} {V : xF} {D : yD} {Q : xRes → xF → yD → Prop}
    (h : (yr_342 l_0 l_1 V D) ≠ 0 ∧ Q (.inl (some (vi (wr (wl ((wl ((10000 : Int) * l5)).tdiv (yr_342 l_0 l_1 V D))))))) V D) :
    RY d 285 75 [vi i0, vi i1, vi i2, vl l3, vr 0, vl l5, vr 0, vi i7, vr 0] [vl l_1, vl l_0] V D Q := yat (c := xk_285) (hd := [2850008]) (dk := []) (dv := [2850088]) (nb := []) rfl h
set_option maxRecDepth 20000 in
theorem u_286_0 {d : Nat} {a0 : Nat} {i1 : Int} {V : xF} {D : yD} {Q : xRes → xF → yD → Prop}
    (h : a0 ≠ 0 ∧ (20 ≤ (yK D.2.2.1 a0).1 ∧ (yK D.2.2.1 a0).1 ≤ 25) ∧ RY d 286 5 [vr a0, vi i1, vi 0, vi (((yK D.2.2.1 a0).2 : Int))] [] V D Q) :
    RY d 286 0 [vr a0, vi i1, vr 0, vr 0] [] V D Q := yat (c := xk_286) (hd := [2860005]) (dk := [2860002, 2860003]) (dv := []) (nb := []) rfl h
set_option maxRecDepth 20000 in
theorem u_286_5 {d : Nat} {a0 : Nat} {i1 i2 i3 : Int} {V : xF} {D : yD} {Q : xRes → xF → yD → Prop}
    (h : (i3 ≤ i2 → Q (.inl none) V D) ∧ (i2 < i3 → (a0 ≠ 0 ∧ (yK D.2.2.1 a0).1 = 20 ∧ ((0 : Int) ≤ i2 ∧ i2 < ((yK D.2.2.1 a0).2 : Int)) ∧ (∀ V1 : xF, V1 = up2 V a0 i2.toNat i1 → RY d 286 5 [vr a0, vi i1, vi (wr (i2 + 1)), vi i3] [] V1 D Q)))) :
    RY d 286 5 [vr a0, vi i1, vi i2, vi i3] [] V D Q := yat (c := xk_286) (hd := [2860005]) (dk := [2860010, 2860013]) (dv := [2860013]) (nb := [2860007]) rfl h
set_option maxRecDepth 20000 in
theorem u_287_0_81 {d : Nat} {i2 i3 : Int} {V : xF} {D : yD} {Q : xRes → xF → yD → Prop}
    (h : ((0 : Int) ≤ i2 ∧ i2 < (5 : Int)) ∧ (∀ V1 : xF, V1 = up2 V 254 0 (V 82 i2.toNat) → (((0 : Int) ≤ i2 ∧ i2 < (5 : Int)) ∧ (∀ V2 : xF, V2 = up2 V1 254 1 (V1 83 i2.toNat) → ∀ V3 : xF, V3 = up2 V2 254 2 (wr (i3.tdiv 16)) → ∀ V4 : xF, V4 = up2 V3 254 3 (i3.tmod 16) → ∀ V5 : xF, V5 = up2 V4 254 5 (V4 81 15) → RY d 287 47 [vr 254, vr 81, vi i2, vi i3, vi 0] [] V5 D Q)))) :
    RY d 287 0 [vr 254, vr 81, vi i2, vi i3, vr 0] [] V D Q := yat (c := xk_287) (hd := [2870047]) (dk := []) (dv := [2870006, 2870016]) (nb := []) rfl h
set_option maxRecDepth 20000 in
theorem u_287_47_81 {d : Nat} {i2 i3 i4 : Int} {V : xF} {D : yD} {Q : xRes → xF → yD → Prop}
    (h : ((4 : Int) ≤ i4 → Q (.inl none) V D) ∧ (i4 < 4 → (((0 : Int) ≤ wr ((wr ((4 : Int) * i2)) + i4) ∧ wr ((wr ((4 : Int) * i2)) + i4) < (20 : Int)) ∧ ((0 : Int) ≤ V 84 ((wr ((wr ((4 : Int) * i2)) + i4)).toNat) ∧ V 84 ((wr ((wr ((4 : Int) * i2)) + i4)).toNat) < (5 : Int)) ∧ ((0 : Int) ≤ i4 ∧ i4 < (4 : Int)) ∧ (∀ V1 : xF, V1 = up2 V 255 i4.toNat (V 2 ((V 84 ((wr ((wr ((4 : Int) * i2)) + i4)).toNat)).toNat)) → RY d 287 47 [vr 254, vr 81, vi i2, vi i3, vi (wr (i4 + 1))] [] V1 D Q)))) :
    RY d 287 47 [vr 254, vr 81, vi i2, vi i3, vi i4] [] V D Q := yat (c := xk_287) (hd := [2870047]) (dk := []) (dv := [2870072, 2870073, 2870074]) (nb := [2870050]) rfl h
set_option maxRecDepth 20000 in
theorem u_287_0_92 {d : Nat} {i2 i3 : Int} {V : xF} {D : yD} {Q : xRes → xF → yD → Prop}
    (h : ((0 : Int) ≤ i2 ∧ i2 < (5 : Int)) ∧ (∀ V1 : xF, V1 = up2 V 254 0 (V 93 i2.toNat) → (((0 : Int) ≤ i2 ∧ i2 < (5 : Int)) ∧ (∀ V2 : xF, V2 = up2 V1 254 1 (V1 94 i2.toNat) → ∀ V3 : xF, V3 = up2 V2 254 2 (wr (i3.tdiv 16)) → ∀ V4 : xF, V4 = up2 V3 254 3 (i3.tmod 16) → ∀ V5 : xF, V5 = up2 V4 254 5 (V4 92 15) → RY d 287 47 [vr 254, vr 92, vi i2, vi i3, vi 0] [] V5 D Q)))) :
    RY d 287 0 [vr 254, vr 92, vi i2, vi i3, vr 0] [] V D Q := yat (c := xk_287) (hd := [2870047]) (dk := []) (dv := [2870006, 2870016]) (nb := []) rfl h
set_option maxRecDepth 20000 in
theorem u_287_47_92 {d : Nat} {i2 i3 i4 : Int} {V : xF} {D : yD} {Q : xRes → xF → yD → Prop}
    (h : ((4 : Int) ≤ i4 → Q (.inl none) V D) ∧ (i4 < 4 → (((0 : Int) ≤ wr ((wr ((4 : Int) * i2)) + i4) ∧ wr ((wr ((4 : Int) * i2)) + i4) < (20 : Int)) ∧ ((0 : Int) ≤ V 95 ((wr ((wr ((4 : Int) * i2)) + i4)).toNat) ∧ V 95 ((wr ((wr ((4 : Int) * i2)) + i4)).toNat) < (5 : Int)) ∧ ((0 : Int) ≤ i4 ∧ i4 < (4 : Int)) ∧ (∀ V1 : xF, V1 = up2 V 255 i4.toNat (V 2 ((V 95 ((wr ((wr ((4 : Int) * i2)) + i4)).toNat)).toNat)) → RY d 287 47 [vr 254, vr 92, vi i2, vi i3, vi (wr (i4 + 1))] [] V1 D Q)))) :
    RY d 287 47 [vr 254, vr 92, vi i2, vi i3, vi i4] [] V D Q := yat (c := xk_287) (hd := [2870047]) (dk := []) (dv := [2870072, 2870073, 2870074]) (nb := [2870050]) rfl h
set_option maxRecDepth 20000 in
theorem u_289_0 {d : Nat} {i1 i2 : Int} {V : xF} {D : yD} {Q : xRes → xF → yD → Prop}
    (h : RY d 344 0 [vi (yr_343 i1 (V 254 0) (V 254 2) V D), vi (yr_343 i2 (V 254 1) (V 254 3) V D), vr 0, vr 0] [] V D (yback d 289 34 [vr 254, vi i1, vi i2, vi (yr_343 i1 (V 254 0) (V 254 2) V D), vi (yr_343 i2 (V 254 1) (V 254 3) V D)] [vr 254] Q)) :
    RY d 289 0 [vr 254, vi i1, vi i2, vr 0, vr 0] [] V D Q := yat (c := xk_289) (hd := []) (dk := []) (dv := []) (nb := []) rfl h
set_option maxRecDepth 20000 in
theorem u_289_34 {d : Nat} {i1 i2 i3 i4 i_1 : Int} {V : xF} {D : yD} {Q : xRes → xF → yD → Prop}
    (h : ∀ V1 : xF, V1 = up2 V 254 6 i_1 → ∀ V2 : xF, V2 = up2 V1 254 7 1000 → RY d 346 0 [vr 254, vi (yr_345 i1 V2 D), vi (V2 255 0), vr 0] [] V2 D (yback d 289 58 [vr 254, vi i1, vi i2, vi i3, vi i4] [] Q)) :
    RY d 289 34 [vr 254, vi i1, vi i2, vi i3, vi i4] [vi i_1, vr 254] V D Q := yat (c := xk_289) (hd := []) (dk := []) (dv := []) (nb := []) rfl h
set_option maxRecDepth 20000 in
theorem u_289_58 {d : Nat} {i1 i2 i3 i4 : Int} {V : xF} {D : yD} {Q : xRes → xF → yD → Prop}
    (h : RY d 346 0 [vr 254, vi (yr_347 i1 V D), vi (V 255 1), vr 0] [] V D (yback d 289 72 [vr 254, vi i1, vi i2, vi i3, vi i4] [] Q)) :
    RY d 289 58 [vr 254, vi i1, vi i2, vi i3, vi i4] [] V D Q := yat (c := xk_289) (hd := []) (dk := []) (dv := []) (nb := []) rfl h
set_option maxRecDepth 20000 in
theorem u_289_72 {d : Nat} {i1 i2 i3 i4 : Int} {V : xF} {D : yD} {Q : xRes → xF → yD → Prop}
    (h : RY d 346 0 [vr 254, vi (yr_345 i2 V D), vi (V 255 2), vr 0] [] V D (yback d 289 86 [vr 254, vi i1, vi i2, vi i3, vi i4] [] Q)) :
    RY d 289 72 [vr 254, vi i1, vi i2, vi i3, vi i4] [] V D Q := yat (c := xk_289) (hd := []) (dk := []) (dv := []) (nb := []) rfl h
set_option maxRecDepth 20000 in
theorem u_289_86 {d : Nat} {i1 i2 i3 i4 : Int} {V : xF} {D : yD} {Q : xRes → xF → yD → Prop}
    (h : RY d 346 0 [vr 254, vi (yr_347 i2 V D), vi (V 255 3), vr 0] [] V D (yback d 289 100 [vr 254, vi i1, vi i2, vi i3, vi i4] [] Q)) :
    RY d 289 86 [vr 254, vi i1, vi i2, vi i3, vi i4] [] V D Q := yat (c := xk_289) (hd := []) (dk := []) (dv := []) (nb := []) rfl h
set_option maxRecDepth 20000 in
theorem u_289_100 {d : Nat} {i1 i2 i3 i4 : Int} {V : xF} {D : yD} {Q : xRes → xF → yD → Prop}
    (h : (V 254 6) ≠ 0 ∧ (∀ V1 : xF, V1 = up2 V 254 7 (wr ((V 254 7).tdiv (V 254 6))) → (((V1 254 5) ≠ 1 → (((V1 254 5) ≠ 2 → Q (.inl none) V1 D) ∧ ((V1 254 5) = 2 → ((i3 ≤ 0 → Q (.inl none) V1 D) ∧ ((0 : Int) < i3 → ∀ V2 : xF, V2 = up2 V1 254 7 (wr ((V1 254 7).tdiv 2)) → Q (.inl none) V2 D))))) ∧ ((V1 254 5) = 1 → ((i3 < 0 → ∀ V3 : xF, V3 = up2 V1 254 7 (wr ((V1 254 7).tdiv 2)) → Q (.inl none) V3 D) ∧ ((0 : Int) ≤ i3 → (((V1 254 5) ≠ 2 → Q (.inl none) V1 D) ∧ ((V1 254 5) = 2 → ((i3 ≤ 0 → Q (.inl none) V1 D) ∧ ((0 : Int) < i3 → ∀ V4 : xF, V4 = up2 V1 254 7 (wr ((V1 254 7).tdiv 2)) → Q (.inl none) V4 D)))))))))) :
    RY d 289 100 [vr 254, vi i1, vi i2, vi i3, vi i4] [] V D Q := yat (c := xk_289) (hd := []) (dk := []) (dv := [2890109]) (nb := [2890118, 2890122, 2890130, 2890134]) rfl h
set_option maxRecDepth 20000 in
theorem u_290_0_81 {d : Nat} {V : xF} {D : yD} {Q : xRes → xF → yD → Prop}
    (h : RY d 214 0 [vr 81, vr 0, vr 0] [] V D (yback d 290 4 [vr 81, vr 0, vr 0, vr 0] [] Q)) :
    RY d 290 0 [vr 81, vr 0, vr 0, vr 0] [] V D Q := yat (c := xk_290) (hd := [2900009]) (dk := []) (dv := []) (nb := []) rfl h
set_option maxRecDepth 20000 in
theorem u_290_4_81 {d : Nat} {i_0 : Int} {V : xF} {D : yD} {Q : xRes → xF → yD → Prop}
    (h : RY d 290 9 [vr 81, vi i_0, vi 0, vi 0] [] V D Q) :
    RY d 290 4 [vr 81, vr 0, vr 0, vr 0] [vi i_0] V D Q := yat (c := xk_290) (hd := [2900009]) (dk := []) (dv := []) (nb := []) rfl h
set_option maxRecDepth 20000 in
theorem u_290_9_81 {d : Nat} {i1 i2 i3 : Int} {V : xF} {D : yD} {Q : xRes → xF → yD → Prop}
    (h : ((V 81 0) ≤ i3 → Q (.inl (some (vi i2))) V D) ∧ (i3 < (V 81 0) → (((0 : Int) ≤ i3 ∧ i3 < (5 : Int)) ∧ RY d 290 9 [vr 81, vi i1, vi (wr (i2 + (wr ((xand (xshr i1 i3) 1) * (V 85 i3.toNat))))), vi (wr (i3 + 1))] [] V D Q))) :
    RY d 290 9 [vr 81, vi i1, vi i2, vi i3] [] V D Q := yat (c := xk_290) (hd := [2900009]) (dk := []) (dv := [2900028]) (nb := [2900014]) rfl h
set_option maxRecDepth 20000 in
theorem u_290_0_92 {d : Nat} {V : xF} {D : yD} {Q : xRes → xF → yD → Prop}
    (h : RY d 214 0 [vr 92, vr 0, vr 0] [] V D (yback d 290 4 [vr 92, vr 0, vr 0, vr 0] [] Q)) :
    RY d 290 0 [vr 92, vr 0, vr 0, vr 0] [] V D Q := yat (c := xk_290) (hd := [2900009]) (dk := []) (dv := []) (nb := []) rfl h
set_option maxRecDepth 20000 in
theorem u_290_4_92 {d : Nat} {i_0 : Int} {V : xF} {D : yD} {Q : xRes → xF → yD → Prop}
    (h : RY d 290 9 [vr 92, vi i_0, vi 0, vi 0] [] V D Q) :
    RY d 290 4 [vr 92, vr 0, vr 0, vr 0] [vi i_0] V D Q := yat (c := xk_290) (hd := [2900009]) (dk := []) (dv := []) (nb := []) rfl h
set_option maxRecDepth 20000 in
theorem u_290_9_92 {d : Nat} {i1 i2 i3 : Int} {V : xF} {D : yD} {Q : xRes → xF → yD → Prop}
    (h : ((V 92 0) ≤ i3 → Q (.inl (some (vi i2))) V D) ∧ (i3 < (V 92 0) → (((0 : Int) ≤ i3 ∧ i3 < (5 : Int)) ∧ RY d 290 9 [vr 92, vi i1, vi (wr (i2 + (wr ((xand (xshr i1 i3) 1) * (V 96 i3.toNat))))), vi (wr (i3 + 1))] [] V D Q))) :
    RY d 290 9 [vr 92, vi i1, vi i2, vi i3] [] V D Q := yat (c := xk_290) (hd := [2900009]) (dk := []) (dv := [2900028]) (nb := [2900014]) rfl h
set_option maxRecDepth 20000 in
theorem u_293_0 {d : Nat} {i1 : Int} {V : xF} {D : yD} {Q : xRes → xF → yD → Prop}
    (h : RY d 293 2 [vr 90, vi i1, vi 0] [] V D Q) :
    RY d 293 0 [vr 90, vi i1, vr 0] [] V D Q := yat (c := xk_293) (hd := [2930002]) (dk := []) (dv := []) (nb := []) rfl h
set_option maxRecDepth 20000 in
theorem u_293_2 {d : Nat} {i1 i2 : Int} {V : xF} {D : yD} {Q : xRes → xF → yD → Prop}
    (h : ((V 90 1) ≤ i2 → Q (.inl (some (vi ((-1))))) V D) ∧ (i2 < (V 90 1) → (((0 : Int) ≤ wr ((wr ((4 : Int) * i2)) + 1) ∧ wr ((wr ((4 : Int) * i2)) + 1) < (240 : Int)) ∧ (((V 91 ((wr ((wr ((4 : Int) * i2)) + 1)).toNat)) ≠ i1 → RY d 293 2 [vr 90, vi i1, vi (wr (i2 + 1))] [] V D Q) ∧ ((V 91 ((wr ((wr ((4 : Int) * i2)) + 1)).toNat)) = i1 → (((0 : Int) ≤ wr ((wr ((4 : Int) * i2)) + 2) ∧ wr ((wr ((4 : Int) * i2)) + 2) < (240 : Int)) ∧ Q (.inl (some (vi (V 91 ((wr ((wr ((4 : Int) * i2)) + 2)).toNat))))) V D)))))) :
    RY d 293 2 [vr 90, vi i1, vi i2] [] V D Q := yat (c := xk_293) (hd := [2930002]) (dk := []) (dv := [2930019, 2930033]) (nb := [2930007, 2930021]) rfl h
set_option maxRecDepth 20000 in
theorem u_294_0 {d : Nat} {i1 : Int} {V : xF} {D : yD} {Q : xRes → xF → yD → Prop}
    (h : RY d 294 4 [vr 90, vi i1, vi 0, vi 0] [] V D Q) :
    RY d 294 0 [vr 90, vi i1, vr 0, vr 0] [] V D Q := yat (c := xk_294) (hd := [2940004]) (dk := []) (dv := []) (nb := []) rfl h
set_option maxRecDepth 20000 in
theorem u_294_4 {d : Nat} {i1 i2 i3 : Int} {V : xF} {D : yD} {Q : xRes → xF → yD → Prop}
    (h : ((V 90 1) ≤ i3 → Q (.inl (some (vi i2))) V D) ∧ (i3 < (V 90 1) → (((0 : Int) ≤ wr ((wr ((4 : Int) * i3)) + 1) ∧ wr ((wr ((4 : Int) * i3)) + 1) < (240 : Int)) ∧ (((V 91 ((wr ((wr ((4 : Int) * i3)) + 1)).toNat)) ≠ i1 → RY d 294 4 [vr 90, vi i1, vi i2, vi (wr (i3 + 1))] [] V D Q) ∧ ((V 91 ((wr ((wr ((4 : Int) * i3)) + 1)).toNat)) = i1 → RY d 294 4 [vr 90, vi i1, vi (wr (i2 + 1)), vi (wr (i3 + 1))] [] V D Q))))) :
    RY d 294 4 [vr 90, vi i1, vi i2, vi i3] [] V D Q := yat (c := xk_294) (hd := [2940004]) (dk := []) (dv := [2940021]) (nb := [2940009, 2940023]) rfl h
set_option maxRecDepth 20000 in
theorem u_297_0 {d : Nat} {V : xF} {D : yD} {Q : xRes → xF → yD → Prop}
    (h : RY d 297 4 [vr 76, vi 0, vi 0, vr 0, vr 0] [] V D Q) :
    RY d 297 0 [vr 76, vr 0, vr 0, vr 0, vr 0] [] V D Q := yat (c := xk_297) (hd := [2970004, 2970027]) (dk := []) (dv := []) (nb := []) rfl h
set_option maxRecDepth 20000 in
theorem u_297_4 {d : Nat} {i1 i2 : Int} {v3 v4 : xV} {V : xF} {D : yD} {Q : xRes → xF → yD → Prop}
    (h : ((V 76 1) ≤ i2 → (((0 : Int) ≤ i1 ∧ i1 < (401 : Int)) ∧ (∀ V1 : xF, V1 = up2 V 78 i1.toNat 3 → (((0 : Int) ≤ i1 ∧ i1 < (401 : Int)) ∧ (∀ V2 : xF, V2 = up2 V1 79 i1.toNat (V1 76 1) → (((0 : Int) ≤ i1 ∧ i1 < (401 : Int)) ∧ (∀ V3 : xF, V3 = up2 V2 80 i1.toNat (V2 76 1) → ∀ V4 : xF, V4 = up2 V3 76 5 0 → Q (.inl none) V4 D))))))) ∧ (i2 < (V 76 1) → (((0 : Int) ≤ i2 ∧ i2 < (400 : Int)) ∧ RY d 297 27 [vr 76, vi i1, vi i2, vi (yr_348 (V 77 i2.toNat) V D), vi (wr (i2 + 1))] [] V D Q))) :
    RY d 297 4 [vr 76, vi i1, vi i2, v3, v4] [] V D Q := yat (c := xk_297) (hd := [2970004, 2970027]) (dk := []) (dv := [2970017, 2970108, 2970118, 2970128]) (nb := [2970009]) rfl h
set_option maxRecDepth 20000 in
theorem u_297_27 {d : Nat} {i1 i2 i3 i4 : Int} {V : xF} {D : yD} {Q : xRes → xF → yD → Prop}
    (h : (i3 = 0 → (((0 : Int) ≤ i2 ∧ i2 < (400 : Int)) ∧ (((V 77 i2.toNat) = 32 → RY d 297 4 [vr 76, vi i1, vi i4, vi i3, vi i4] [] V D Q) ∧ ((V 77 i2.toNat) ≠ 32 → (((0 : Int) ≤ i1 ∧ i1 < (401 : Int)) ∧ (∀ V1 : xF, V1 = up2 V 78 i1.toNat i3 → (((0 : Int) ≤ i1 ∧ i1 < (401 : Int)) ∧ (∀ V2 : xF, V2 = up2 V1 79 i1.toNat i2 → (((0 : Int) ≤ i1 ∧ i1 < (401 : Int)) ∧ (∀ V3 : xF, V3 = up2 V2 80 i1.toNat i4 → RY d 297 4 [vr 76, vi (wr (i1 + 1)), vi i4, vi i3, vi i4] [] V3 D Q)))))))))) ∧ (i3 ≠ 0 → (((V 76 1) ≤ i4 → (((0 : Int) ≤ i2 ∧ i2 < (400 : Int)) ∧ (((V 77 i2.toNat) = 32 → RY d 297 4 [vr 76, vi i1, vi i4, vi i3, vi i4] [] V D Q) ∧ ((V 77 i2.toNat) ≠ 32 → (((0 : Int) ≤ i1 ∧ i1 < (401 : Int)) ∧ (∀ V4 : xF, V4 = up2 V 78 i1.toNat i3 → (((0 : Int) ≤ i1 ∧ i1 < (401 : Int)) ∧ (∀ V5 : xF, V5 = up2 V4 79 i1.toNat i2 → (((0 : Int) ≤ i1 ∧ i1 < (401 : Int)) ∧ (∀ V6 : xF, V6 = up2 V5 80 i1.toNat i4 → RY d 297 4 [vr 76, vi (wr (i1 + 1)), vi i4, vi i3, vi i4] [] V6 D Q)))))))))) ∧ (i4 < (V 76 1) → (((0 : Int) ≤ i4 ∧ i4 < (400 : Int)) ∧ (((yr_348 (V 77 i4.toNat) V D) ≠ i3 → (((0 : Int) ≤ i2 ∧ i2 < (400 : Int)) ∧ (((V 77 i2.toNat) = 32 → RY d 297 4 [vr 76, vi i1, vi i4, vi i3, vi i4] [] V D Q) ∧ ((V 77 i2.toNat) ≠ 32 → (((0 : Int) ≤ i1 ∧ i1 < (401 : Int)) ∧ (∀ V7 : xF, V7 = up2 V 78 i1.toNat i3 → (((0 : Int) ≤ i1 ∧ i1 < (401 : Int)) ∧ (∀ V8 : xF, V8 = up2 V7 79 i1.toNat i2 → (((0 : Int) ≤ i1 ∧ i1 < (401 : Int)) ∧ (∀ V9 : xF, V9 = up2 V8 80 i1.toNat i4 → RY d 297 4 [vr 76, vi (wr (i1 + 1)), vi i4, vi i3, vi i4] [] V9 D Q)))))))))) ∧ ((yr_348 (V 77 i4.toNat) V D) = i3 → RY d 297 27 [vr 76, vi i1, vi i2, vi i3, vi (wr (i4 + 1))] [] V D Q))))))) :
    RY d 297 27 [vr 76, vi i1, vi i2, vi i3, vi i4] [] V D Q := yat (c := xk_297) (hd := [2970004, 2970027]) (dk := []) (dv := [2970046, 2970065, 2970077, 2970084, 2970092]) (nb := [2970028, 2970037, 2970051, 2970068]) rfl h
set_option maxRecDepth 20000 in
theorem u_299_0_92 {d : Nat} {V : xF} {D : yD} {Q : xRes → xF → yD → Prop}
    (h : RY d 349 0 [vr 76, vr 3, vr 0] [] V D (yback d 299 9 [vr 247, vr 92] [] Q)) :
    RY d 299 0 [vr 247, vr 92] [] V D Q := yat (c := xk_299) (hd := []) (dk := []) (dv := []) (nb := []) rfl h
set_option maxRecDepth 20000 in
theorem u_299_9_92 {d : Nat} {i_0 : Int} {V : xF} {D : yD} {Q : xRes → xF → yD → Prop}
    (h : (i_0 = 0 → RY d 349 0 [vr 76, vr 8, vr 0] [] V D (yback d 299 43 [vr 247, vr 92] [] Q)) ∧ (i_0 ≠ 0 → (((5 : Int) ≤ (V 92 0) → Q (.inl (some (vi 0))) V D) ∧ ((V 92 0) < 5 → RY d 350 0 [vr 247, vr 92, vr 0] [] V D (yback d 299 25 [vr 247, vr 92] [] Q))))) :
    RY d 299 9 [vr 247, vr 92] [vi i_0] V D Q := yat (c := xk_299) (hd := []) (dk := []) (dv := []) (nb := [2990009, 2990017]) rfl h
set_option maxRecDepth 20000 in
theorem u_299_25_92 {d : Nat} {i_0 : Int} {V : xF} {D : yD} {Q : xRes → xF → yD → Prop}
    (h : (i_0 = 0 → Q (.inl (some (vi 0))) V D) ∧ (i_0 ≠ 0 → Q (.inl (some (vi 1))) V D)) :
    RY d 299 25 [vr 247, vr 92] [vi i_0] V D Q := yat (c := xk_299) (hd := []) (dk := []) (dv := []) (nb := [2990025]) rfl h
set_option maxRecDepth 20000 in
theorem u_299_43_92 {d : Nat} {i_0 : Int} {V : xF} {D : yD} {Q : xRes → xF → yD → Prop}
    (h : (i_0 = 0 → RY d 352 0 [vr 76, vr 12] [] V D (yback d 299 77 [vr 247, vr 92] [] Q)) ∧ (i_0 ≠ 0 → (((5 : Int) ≤ (V 92 6) → Q (.inl (some (vi 0))) V D) ∧ ((V 92 6) < 5 → RY d 351 0 [vr 247, vr 92, vr 0, vr 0] [] V D (yback d 299 59 [vr 247, vr 92] [] Q))))) :
    RY d 299 43 [vr 247, vr 92] [vi i_0] V D Q := yat (c := xk_299) (hd := []) (dk := []) (dv := []) (nb := [2990043, 2990051]) rfl h
set_option maxRecDepth 20000 in
theorem u_299_59_92 {d : Nat} {i_0 : Int} {V : xF} {D : yD} {Q : xRes → xF → yD → Prop}
    (h : (i_0 = 0 → Q (.inl (some (vi 0))) V D) ∧ (i_0 ≠ 0 → Q (.inl (some (vi 1))) V D)) :
    RY d 299 59 [vr 247, vr 92] [vi i_0] V D Q := yat (c := xk_299) (hd := []) (dk := []) (dv := []) (nb := [2990059]) rfl h
set_option maxRecDepth 20000 in
theorem u_299_77_92 {d : Nat} {i_0 : Int} {V : xF} {D : yD} {Q : xRes → xF → yD → Prop}
    (h : (i_0 = 0 → RY d 352 0 [vr 76, vr 13] [] V D (yback d 299 95 [vr 247, vr 92] [] Q)) ∧ (i_0 ≠ 0 → RY d 353 0 [vr 247, vr 92, vr 0] [] V D (yback d 299 85 [vr 247, vr 92] [] Q))) :
    RY d 299 77 [vr 247, vr 92] [vi i_0] V D Q := yat (c := xk_299) (hd := []) (dk := []) (dv := []) (nb := [2990077]) rfl h
set_option maxRecDepth 20000 in
theorem u_299_85_92 {d : Nat} {i_0 : Int} {V : xF} {D : yD} {Q : xRes → xF → yD → Prop}
    (h : (i_0 = 0 ∨ i_0 = 1) ∧ Q (.inl (some (vi i_0))) V D) :
    RY d 299 85 [vr 247, vr 92] [vi i_0] V D Q := yat (c := xk_299) (hd := []) (dk := []) (dv := [2990085]) (nb := []) rfl h
set_option maxRecDepth 20000 in
theorem u_299_95_92 {d : Nat} {i_0 : Int} {V : xF} {D : yD} {Q : xRes → xF → yD → Prop}
    (h : (i_0 = 0 → RY d 352 0 [vr 76, vr 14] [] V D (yback d 299 113 [vr 247, vr 92] [] Q)) ∧ (i_0 ≠ 0 → RY d 354 0 [vr 247, vr 92, vr 0, vr 0] [] V D (yback d 299 103 [vr 247, vr 92] [] Q))) :
    RY d 299 95 [vr 247, vr 92] [vi i_0] V D Q := yat (c := xk_299) (hd := []) (dk := []) (dv := []) (nb := [2990095]) rfl h
set_option maxRecDepth 20000 in
theorem u_299_103_92 {d : Nat} {i_0 : Int} {V : xF} {D : yD} {Q : xRes → xF → yD → Prop}
    (h : (i_0 = 0 ∨ i_0 = 1) ∧ Q (.inl (some (vi i_0))) V D) :
    RY d 299 103 [vr 247, vr 92] [vi i_0] V D Q := yat (c := xk_299) (hd := []) (dk := []) (dv := [2990103]) (nb := []) rfl h
set_option maxRecDepth 20000 in
theorem u_299_113_92 {d : Nat} {i_0 : Int} {V : xF} {D : yD} {Q : xRes → xF → yD → Prop}
    (h : (i_0 = 0 → RY d 356 0 [vr 247, vr 92] [] V D (yback d 299 127 [vr 247, vr 92] [] Q)) ∧ (i_0 ≠ 0 → RY d 355 0 [vr 247, vr 92] [] V D (yback d 299 121 [vr 247, vr 92] [] Q))) :
    RY d 299 113 [vr 247, vr 92] [vi i_0] V D Q := yat (c := xk_299) (hd := []) (dk := []) (dv := []) (nb := [2990113]) rfl h
set_option maxRecDepth 20000 in
theorem u_299_121_92 {d : Nat} {i_0 : Int} {V : xF} {D : yD} {Q : xRes → xF → yD → Prop}
    (h : (i_0 = 0 ∨ i_0 = 1) ∧ Q (.inl (some (vi i_0))) V D) :
    RY d 299 121 [vr 247, vr 92] [vi i_0] V D Q := yat (c := xk_299) (hd := []) (dk := []) (dv := [2990121]) (nb := []) rfl h
