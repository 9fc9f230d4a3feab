/-! ===== STRETCHES 6 (printed by wip/whole/ym.py) ===== -/
set_option maxRecDepth 20000 in
theorem u_371_32 {d : Nat} {i1 i2 i_0 : Int} {V : xF} {D : yD} {Q : xRes → xF → yD → Prop}
    (h : (i_0 ≠ 0 → (((V 405 13) ≠ 6 → ∀ V1 : xF, V1 = up2 V 405 13 (wr ((V 405 13) + 1)) → ((i2 = 0 → ∀ V2 : xF, V2 = up2 V1 405 11 (wr ((V1 405 11) + 1)) → RY d 304 0 [vr 405, vr 0, vr 0] [] V2 D (yback (d + 1) 371 102 [vr 405, vi i1, vi i2, vi 0] [] Q)) ∧ (i2 ≠ 0 → RY d 371 0 [vr 405, vr 0, vr 0, vr 0] [] V1 D (yback (d + 1) 371 76 [vr 405, vi i1, vi i2, vi 0] [] Q)))) ∧ ((V 405 13) = 6 → (((V 405 12) ≠ ((-1)) → Q (.inl (some (vi 0))) V D) ∧ ((V 405 12) = ((-1)) → ∀ V3 : xF, V3 = up2 V 405 12 i1 → Q (.inl (some (vi 0))) V3 D))))) ∧ (i_0 = 0 → RY (d + 1) 376 0 [vr 405, vr 0, vr 0, vr 0] [] V D (yback (d + 1) 371 39 [vr 405, vi i1, vi i2, vr 0] [] Q))) :
    RY (d + 1) 371 32 [vr 405, vi i1, vi i2, vr 0] [vi i_0] V D Q := yat (c := xk_371) (hd := []) (dk := []) (dv := []) (nb := [2290005, 3710032, 3710046, 3710069]) rfl h
set_option maxRecDepth 20000 in
theorem u_371_39 {d : Nat} {i1 i2 i_0 : Int} {V : xF} {D : yD} {Q : xRes → xF → yD → Prop}
    (h : (i_0 = 0 ∨ i_0 = 1) ∧ Q (.inl (some (vi i_0))) V D) :
    RY (d + 1) 371 39 [vr 405, vi i1, vi i2, vr 0] [vi i_0] V D Q := yat (c := xk_371) (hd := []) (dk := []) (dv := [3710039]) (nb := []) rfl h
set_option maxRecDepth 20000 in
theorem u_371_76 {d : Nat} {i1 i2 i3 i_0 : Int} {V : xF} {D : yD} {Q : xRes → xF → yD → Prop}
    (h : (i_0 ≠ 0 → ∀ V1 : xF, V1 = up2 V 405 13 (wr ((V 405 13) - 1)) → Q (.inl (some (vi 0))) V1 D) ∧ (i_0 = 0 → ∀ V2 : xF, V2 = up2 V 405 13 (wr ((V 405 13) - 1)) → Q (.inl (some (vi 1))) V2 D)) :
    RY (d + 1) 371 76 [vr 405, vi i1, vi i2, vi i3] [vi i_0] V D Q := yat (c := xk_371) (hd := []) (dk := []) (dv := []) (nb := [3710076]) rfl h
set_option maxRecDepth 20000 in
theorem u_371_102 {d : Nat} {i1 i2 i3 i_0 : Int} {V : xF} {D : yD} {Q : xRes → xF → yD → Prop}
    (h : ((V 405 12) ≠ ((-1)) → ∀ V1 : xF, V1 = up2 V 405 11 (wr ((V 405 11) + 1)) → ∀ V2 : xF, V2 = up2 V1 405 13 (wr ((V1 405 13) - 1)) → ((i_0 = 0 ∨ i_0 = 1) ∧ Q (.inl (some (vi i_0))) V2 D)) ∧ ((V 405 12) = ((-1)) → RY (d + 1) 232 0 [vr 405, vi 41] [] V D (yback (d + 1) 371 117 [vr 405, vi i1, vi i2, vi i_0] [] Q))) :
    RY (d + 1) 371 102 [vr 405, vi i1, vi i2, vi i3] [vi i_0] V D Q := yat (c := xk_371) (hd := []) (dk := []) (dv := [3710149]) (nb := [3710108]) rfl h
set_option maxRecDepth 20000 in
theorem u_371_117 {d : Nat} {i1 i2 i3 i_0 : Int} {V : xF} {D : yD} {Q : xRes → xF → yD → Prop}
    (h : (i_0 ≠ 0 → ∀ V1 : xF, V1 = up2 V 405 11 (wr ((V 405 11) + 1)) → ∀ V2 : xF, V2 = up2 V1 405 13 (wr ((V1 405 13) - 1)) → ((i3 = 0 ∨ i3 = 1) ∧ Q (.inl (some (vi i3))) V2 D)) ∧ (i_0 = 0 → (((V 405 12) ≠ ((-1)) → ∀ V3 : xF, V3 = up2 V 405 11 (wr ((V 405 11) + 1)) → ∀ V4 : xF, V4 = up2 V3 405 13 (wr ((V3 405 13) - 1)) → ((i3 = 0 ∨ i3 = 1) ∧ Q (.inl (some (vi i3))) V4 D)) ∧ ((V 405 12) = ((-1)) → ∀ V5 : xF, V5 = up2 V 405 12 (V 405 11) → ∀ V6 : xF, V6 = up2 V5 405 11 (wr ((V5 405 11) + 1)) → ∀ V7 : xF, V7 = up2 V6 405 13 (wr ((V6 405 13) - 1)) → ((i3 = 0 ∨ i3 = 1) ∧ Q (.inl (some (vi i3))) V7 D))))) :
    RY (d + 1) 371 117 [vr 405, vi i1, vi i2, vi i3] [vi i_0] V D Q := yat (c := xk_371) (hd := []) (dk := []) (dv := [3710149]) (nb := [2290005, 3710117]) rfl h
set_option maxRecDepth 20000 in
theorem u_372_0 {d : Nat} {i1 : Int} {V : xF} {D : yD} {Q : xRes → xF → yD → Prop}
    (h : (i1 < 6 → RY (d + 1) 352 0 [vr 76, vr 26] [] V D (yback (d + 1) 372 41 [vr 248, vi i1, vr 0, vr 0] [] Q)) ∧ ((6 : Int) ≤ i1 → RY (d + 1) 349 0 [vr 76, vr 26, vr 0] [] V D (yback (d + 1) 372 15 [vr 248, vi i1, vr 0, vr 0] [] Q))) :
    RY (d + 1) 372 0 [vr 248, vi i1, vr 0, vr 0] [] V D Q := yat (c := xk_372) (hd := []) (dk := []) (dv := []) (nb := [3720003]) rfl h
set_option maxRecDepth 20000 in
theorem u_372_15 {d : Nat} {i1 i_0 : Int} {V : xF} {D : yD} {Q : xRes → xF → yD → Prop}
    (h : (i_0 ≠ 0 → Q (.inl (some (vi 0))) V D) ∧ (i_0 = 0 → (yg_357 40 V D ∧ (((yr_357 40 V D) = 0 → RY (d + 1) 352 0 [vr 76, vr 26] [] V D (yback (d + 1) 372 41 [vr 248, vi i1, vr 0, vr 0] [] Q)) ∧ ((yr_357 40 V D) ≠ 0 → Q (.inl (some (vi 0))) V D))))) :
    RY (d + 1) 372 15 [vr 248, vi i1, vr 0, vr 0] [vi i_0] V D Q := yat (c := xk_372) (hd := []) (dk := []) (dv := []) (nb := [3720015, 3720027]) rfl h
set_option maxRecDepth 20000 in
theorem u_372_41 {d : Nat} {i1 i_0 : Int} {V : xF} {D : yD} {Q : xRes → xF → yD → Prop}
    (h : (i_0 = 0 → RY (d + 1) 300 0 [vr 76, vi 40] [] V D (yback (d + 1) 372 69 [vr 248, vi i1, vr 0, vr 0] [] Q)) ∧ (i_0 ≠ 0 → RY d 372 0 [vr 248, vi (wr (i1 + 1)), vr 0, vr 0] [] V D (yback (d + 1) 372 51 [vr 248, vi i1, vr 0, vr 0] [] Q))) :
    RY (d + 1) 372 41 [vr 248, vi i1, vr 0, vr 0] [vi i_0] V D Q := yat (c := xk_372) (hd := []) (dk := []) (dv := []) (nb := [3720041]) rfl h
set_option maxRecDepth 20000 in
theorem u_372_51 {d : Nat} {i1 i_0 : Int} {V : xF} {D : yD} {Q : xRes → xF → yD → Prop}
    (h : ((800 : Int) ≤ (V 248 6) → ((i_0 = 0 ∨ i_0 = 1) ∧ Q (.inl (some (vi i_0))) V D)) ∧ ((V 248 6) < 800 → (((0 : Int) ≤ V 248 6 ∧ V 248 6 < (800 : Int)) ∧ (∀ V1 : xF, V1 = up2 V 252 ((V 248 6).toNat) ((-6)) → ∀ V2 : xF, V2 = up2 V1 248 6 (wr ((V1 248 6) + 1)) → ((i_0 = 0 ∨ i_0 = 1) ∧ Q (.inl (some (vi i_0))) V2 D))))) :
    RY (d + 1) 372 51 [vr 248, vi i1, vr 0, vr 0] [vi i_0] V D Q := yat (c := xk_372) (hd := []) (dk := []) (dv := [3720059, 3730019]) (nb := [3730007]) rfl h
set_option maxRecDepth 20000 in
theorem u_372_69 {d : Nat} {i1 i_0 : Int} {V : xF} {D : yD} {Q : xRes → xF → yD → Prop}
    (h : (i_0 = 0 → RY (d + 1) 352 0 [vr 76, vr 27] [] V D (yback (d + 1) 372 109 [vr 248, vi i1, vr 0, vr 0] [] Q)) ∧ (i_0 ≠ 0 → RY d 363 0 [vr 248, vi (wr (i1 + 1)), vr 0, vr 0, vr 0] [] V D (yback (d + 1) 372 79 [vr 248, vi i1, vr 0, vr 0] [] Q))) :
    RY (d + 1) 372 69 [vr 248, vi i1, vr 0, vr 0] [vi i_0] V D Q := yat (c := xk_372) (hd := []) (dk := []) (dv := []) (nb := [3720069]) rfl h
set_option maxRecDepth 20000 in
theorem u_372_79 {d : Nat} {i1 i_0 : Int} {V : xF} {D : yD} {Q : xRes → xF → yD → Prop}
    (h : (i_0 = 0 → Q (.inl (some (vi 0))) V D) ∧ (i_0 ≠ 0 → RY (d + 1) 300 0 [vr 76, vi 41] [] V D (yback (d + 1) 372 91 [vr 248, vi i1, vr 0, vr 0] [] Q))) :
    RY (d + 1) 372 79 [vr 248, vi i1, vr 0, vr 0] [vi i_0] V D Q := yat (c := xk_372) (hd := []) (dk := []) (dv := []) (nb := [3720079]) rfl h
set_option maxRecDepth 20000 in
theorem u_372_91 {d : Nat} {i1 i_0 : Int} {V : xF} {D : yD} {Q : xRes → xF → yD → Prop}
    (h : (i_0 = 0 → Q (.inl (some (vi 0))) V D) ∧ (i_0 ≠ 0 → Q (.inl (some (vi 1))) V D)) :
    RY (d + 1) 372 91 [vr 248, vi i1, vr 0, vr 0] [vi i_0] V D Q := yat (c := xk_372) (hd := []) (dk := []) (dv := []) (nb := [3720091]) rfl h
set_option maxRecDepth 20000 in
theorem u_372_109 {d : Nat} {i1 i_0 : Int} {V : xF} {D : yD} {Q : xRes → xF → yD → Prop}
    (h : (i_0 = 0 → RY (d + 1) 352 0 [vr 76, vr 28] [] V D (yback (d + 1) 372 129 [vr 248, vi i1, vr 0, vr 0] [] Q)) ∧ (i_0 ≠ 0 → (((800 : Int) ≤ (V 248 6) → Q (.inl (some (vi 1))) V D) ∧ ((V 248 6) < 800 → (((0 : Int) ≤ V 248 6 ∧ V 248 6 < (800 : Int)) ∧ (∀ V1 : xF, V1 = up2 V 252 ((V 248 6).toNat) ((-4)) → ∀ V2 : xF, V2 = up2 V1 248 6 (wr ((V1 248 6) + 1)) → Q (.inl (some (vi 1))) V2 D)))))) :
    RY (d + 1) 372 109 [vr 248, vi i1, vr 0, vr 0] [vi i_0] V D Q := yat (c := xk_372) (hd := []) (dk := []) (dv := [3730019]) (nb := [3720109, 3730007]) rfl h
set_option maxRecDepth 20000 in
theorem u_372_129 {d : Nat} {i1 i_0 : Int} {V : xF} {D : yD} {Q : xRes → xF → yD → Prop}
    (h : (i_0 = 0 → RY (d + 1) 377 0 [vr 248, vr 0, vr 0, vr 0] [] V D (yback (d + 1) 372 144 [vr 248, vi i1, vr 0, vr 0] [] Q)) ∧ (i_0 ≠ 0 → (((800 : Int) ≤ (V 248 6) → Q (.inl (some (vi 1))) V D) ∧ ((V 248 6) < 800 → (((0 : Int) ≤ V 248 6 ∧ V 248 6 < (800 : Int)) ∧ (∀ V1 : xF, V1 = up2 V 252 ((V 248 6).toNat) ((-5)) → ∀ V2 : xF, V2 = up2 V1 248 6 (wr ((V1 248 6) + 1)) → Q (.inl (some (vi 1))) V2 D)))))) :
    RY (d + 1) 372 129 [vr 248, vi i1, vr 0, vr 0] [vi i_0] V D Q := yat (c := xk_372) (hd := []) (dk := []) (dv := [3730019]) (nb := [3720129, 3730007]) rfl h
set_option maxRecDepth 20000 in
theorem u_372_144 {d : Nat} {i1 i_0 : Int} {V : xF} {D : yD} {Q : xRes → xF → yD → Prop}
    (h : (i_0 ≠ 0 → (yg_357 60 V D ∧ (((yr_357 60 V D) ≠ 0 → (((0 : Int) ≤ V 76 5 ∧ V 76 5 < (401 : Int)) ∧ (((V 78 ((V 76 5).toNat)) = 3 → (((800 : Int) ≤ (V 248 6) → RY (d + 1) 377 0 [vr 248, vr 0, vr 0, vr 0] [] V D (yback (d + 1) 372 193 [vr 248, vi i1, vi (yr_357 60 V D), vr 0] [] Q)) ∧ ((V 248 6) < 800 → (((0 : Int) ≤ V 248 6 ∧ V 248 6 < (800 : Int)) ∧ (∀ V1 : xF, V1 = up2 V 252 ((V 248 6).toNat) ((-1)) → ∀ V2 : xF, V2 = up2 V1 248 6 (wr ((V1 248 6) + 1)) → RY (d + 1) 377 0 [vr 248, vr 0, vr 0, vr 0] [] V2 D (yback (d + 1) 372 193 [vr 248, vi i1, vi (yr_357 60 V D), vr 0] [] Q)))))) ∧ ((V 78 ((V 76 5).toNat)) ≠ 3 → ∀ V3 : xF, V3 = up2 V 76 5 (wr ((V 76 5) + 1)) → (((800 : Int) ≤ (V3 248 6) → RY (d + 1) 377 0 [vr 248, vr 0, vr 0, vr 0] [] V3 D (yback (d + 1) 372 193 [vr 248, vi i1, vi (yr_357 60 V D), vr 0] [] Q)) ∧ ((V3 248 6) < 800 → (((0 : Int) ≤ V3 248 6 ∧ V3 248 6 < (800 : Int)) ∧ (∀ V4 : xF, V4 = up2 V3 252 ((V3 248 6).toNat) ((-1)) → ∀ V5 : xF, V5 = up2 V4 248 6 (wr ((V4 248 6) + 1)) → RY (d + 1) 377 0 [vr 248, vr 0, vr 0, vr 0] [] V5 D (yback (d + 1) 372 193 [vr 248, vi i1, vi (yr_357 60 V D), vr 0] [] Q))))))))) ∧ ((yr_357 60 V D) = 0 → (yg_357 62 V D ∧ (((yr_357 62 V D) ≠ 0 → (((0 : Int) ≤ V 76 5 ∧ V 76 5 < (401 : Int)) ∧ (((V 78 ((V 76 5).toNat)) = 3 → (((800 : Int) ≤ (V 248 6) → RY (d + 1) 377 0 [vr 248, vr 0, vr 0, vr 0] [] V D (yback (d + 1) 372 193 [vr 248, vi i1, vi (yr_357 60 V D), vr 0] [] Q)) ∧ ((V 248 6) < 800 → (((0 : Int) ≤ V 248 6 ∧ V 248 6 < (800 : Int)) ∧ (∀ V6 : xF, V6 = up2 V 252 ((V 248 6).toNat) ((-1)) → ∀ V7 : xF, V7 = up2 V6 248 6 (wr ((V6 248 6) + 1)) → RY (d + 1) 377 0 [vr 248, vr 0, vr 0, vr 0] [] V7 D (yback (d + 1) 372 193 [vr 248, vi i1, vi (yr_357 60 V D), vr 0] [] Q)))))) ∧ ((V 78 ((V 76 5).toNat)) ≠ 3 → ∀ V8 : xF, V8 = up2 V 76 5 (wr ((V 76 5) + 1)) → (((800 : Int) ≤ (V8 248 6) → RY (d + 1) 377 0 [vr 248, vr 0, vr 0, vr 0] [] V8 D (yback (d + 1) 372 193 [vr 248, vi i1, vi (yr_357 60 V D), vr 0] [] Q)) ∧ ((V8 248 6) < 800 → (((0 : Int) ≤ V8 248 6 ∧ V8 248 6 < (800 : Int)) ∧ (∀ V9 : xF, V9 = up2 V8 252 ((V8 248 6).toNat) ((-1)) → ∀ V10 : xF, V10 = up2 V9 248 6 (wr ((V9 248 6) + 1)) → RY (d + 1) 377 0 [vr 248, vr 0, vr 0, vr 0] [] V10 D (yback (d + 1) 372 193 [vr 248, vi i1, vi (yr_357 60 V D), vr 0] [] Q))))))))) ∧ ((yr_357 62 V D) = 0 → Q (.inl (some (vi 0))) V D))))))) ∧ (i_0 = 0 → Q (.inl (some (vi 0))) V D)) :
    RY (d + 1) 372 144 [vr 248, vi i1, vr 0, vr 0] [vi i_0] V D Q := yat (c := xk_372) (hd := []) (dk := []) (dv := [3580008, 3730019]) (nb := [3580010, 3720144, 3720160, 3720172, 3730007]) rfl h
set_option maxRecDepth 20000 in
theorem u_372_193 {d : Nat} {i1 i2 i_0 : Int} {V : xF} {D : yD} {Q : xRes → xF → yD → Prop}
    (h : (i2 = 0 → (((800 : Int) ≤ (V 248 6) → ((i_0 = 0 ∨ i_0 = 1) ∧ Q (.inl (some (vi i_0))) V D)) ∧ ((V 248 6) < 800 → (((0 : Int) ≤ V 248 6 ∧ V 248 6 < (800 : Int)) ∧ (∀ V1 : xF, V1 = up2 V 252 ((V 248 6).toNat) ((-3)) → ∀ V2 : xF, V2 = up2 V1 248 6 (wr ((V1 248 6) + 1)) → ((i_0 = 0 ∨ i_0 = 1) ∧ Q (.inl (some (vi i_0))) V2 D)))))) ∧ (i2 ≠ 0 → (((800 : Int) ≤ (V 248 6) → ((i_0 = 0 ∨ i_0 = 1) ∧ Q (.inl (some (vi i_0))) V D)) ∧ ((V 248 6) < 800 → (((0 : Int) ≤ V 248 6 ∧ V 248 6 < (800 : Int)) ∧ (∀ V3 : xF, V3 = up2 V 252 ((V 248 6).toNat) ((-2)) → ∀ V4 : xF, V4 = up2 V3 248 6 (wr ((V3 248 6) + 1)) → ((i_0 = 0 ∨ i_0 = 1) ∧ Q (.inl (some (vi i_0))) V4 D))))))) :
    RY (d + 1) 372 193 [vr 248, vi i1, vi i2, vr 0] [vi i_0] V D Q := yat (c := xk_372) (hd := []) (dk := []) (dv := [3720210, 3730019]) (nb := [3720196, 3730007]) rfl h
set_option maxRecDepth 20000 in
theorem u_376_0 {d : Nat} {V : xF} {D : yD} {Q : xRes → xF → yD → Prop}
    (h : RY d 302 0 [vr 405, vr 44, vr 0, vr 0] [] V D (yback d 376 6 [vr 405, vr 0, vr 0, vr 0] [] Q)) :
    RY d 376 0 [vr 405, vr 0, vr 0, vr 0] [] V D Q := yat (c := xk_376) (hd := []) (dk := []) (dv := []) (nb := []) rfl h
set_option maxRecDepth 20000 in
theorem u_376_6 {d : Nat} {i_0 : Int} {V : xF} {D : yD} {Q : xRes → xF → yD → Prop}
    (h : (i_0 = 0 → RY d 302 0 [vr 405, vr 45, vr 0, vr 0] [] V D (yback d 376 20 [vr 405, vr 0, vr 0, vr 0] [] Q)) ∧ (i_0 ≠ 0 → (((V 405 15) = 0 ∨ (V 405 15) = 1) ∧ Q (.inl (some (vi (V 405 15)))) V D))) :
    RY d 376 6 [vr 405, vr 0, vr 0, vr 0] [vi i_0] V D Q := yat (c := xk_376) (hd := []) (dk := []) (dv := [3760013]) (nb := [3760006]) rfl h
set_option maxRecDepth 20000 in
theorem u_376_20 {d : Nat} {i_0 : Int} {V : xF} {D : yD} {Q : xRes → xF → yD → Prop}
    (h : (i_0 = 0 → RY d 378 0 [vr 405, vr 0] [] V D (yback d 376 32 [vr 405, vr 0, vr 0, vr 0] [] Q)) ∧ (i_0 ≠ 0 → (((V 405 16) = 0 ∨ (V 405 16) = 1) ∧ Q (.inl (some (vi (V 405 16)))) V D))) :
    RY d 376 20 [vr 405, vr 0, vr 0, vr 0] [vi i_0] V D Q := yat (c := xk_376) (hd := []) (dk := []) (dv := [3760027]) (nb := [3760020]) rfl h
set_option maxRecDepth 20000 in
theorem u_376_32 {d : Nat} {i_0 : Int} {V : xF} {D : yD} {Q : xRes → xF → yD → Prop}
    (h : ((V 405 12) = ((-1)) → RY d 232 0 [vr 405, vi 60] [] V D (yback d 376 49 [vr 405, vi i_0, vr 0, vr 0] [] Q)) ∧ ((V 405 12) ≠ ((-1)) → Q (.inl (some (vi 0))) V D)) :
    RY d 376 32 [vr 405, vr 0, vr 0, vr 0] [vi i_0] V D Q := yat (c := xk_376) (hd := []) (dk := []) (dv := []) (nb := [3760038]) rfl h
set_option maxRecDepth 20000 in
theorem u_376_49 {d : Nat} {i1 i_0 : Int} {V : xF} {D : yD} {Q : xRes → xF → yD → Prop}
    (h : (i_0 ≠ 0 → ∀ V1 : xF, V1 = up2 V 405 11 (wr ((V 405 11) + 1)) → RY d 378 0 [vr 405, vr 0] [] V1 D (yback d 376 87 [vr 405, vi i1, vi i_0, vr 0] [] Q)) ∧ (i_0 = 0 → RY d 232 0 [vr 405, vi 62] [] V D (yback d 376 60 [vr 405, vi i1, vi i_0, vr 0] [] Q))) :
    RY d 376 49 [vr 405, vi i1, vr 0, vr 0] [vi i_0] V D Q := yat (c := xk_376) (hd := []) (dk := []) (dv := []) (nb := [3760051]) rfl h
set_option maxRecDepth 20000 in
theorem u_376_60 {d : Nat} {i1 i2 i_0 : Int} {V : xF} {D : yD} {Q : xRes → xF → yD → Prop}
    (h : (i_0 ≠ 0 → ∀ V1 : xF, V1 = up2 V 405 11 (wr ((V 405 11) + 1)) → RY d 378 0 [vr 405, vr 0] [] V1 D (yback d 376 87 [vr 405, vi i1, vi i2, vr 0] [] Q)) ∧ (i_0 = 0 → (((V 405 12) ≠ ((-1)) → Q (.inl (some (vi 0))) V D) ∧ ((V 405 12) = ((-1)) → ∀ V2 : xF, V2 = up2 V 405 12 (V 405 11) → Q (.inl (some (vi 0))) V2 D)))) :
    RY d 376 60 [vr 405, vi i1, vi i2, vr 0] [vi i_0] V D Q := yat (c := xk_376) (hd := []) (dk := []) (dv := []) (nb := [2290005, 3760060]) rfl h
set_option maxRecDepth 20000 in
theorem u_376_87 {d : Nat} {i1 i2 i_0 : Int} {V : xF} {D : yD} {Q : xRes → xF → yD → Prop}
    (h : (i2 = 0 → ((i1 ≤ i_0 → Q (.inl (some (vi 0))) V D) ∧ (i_0 < i1 → Q (.inl (some (vi 1))) V D))) ∧ (i2 ≠ 0 → ((i_0 ≤ i1 → Q (.inl (some (vi 0))) V D) ∧ (i1 < i_0 → Q (.inl (some (vi 1))) V D)))) :
    RY d 376 87 [vr 405, vi i1, vi i2, vr 0] [vi i_0] V D Q := yat (c := xk_376) (hd := []) (dk := []) (dv := []) (nb := [3760089, 3760094, 3760107]) rfl h
set_option maxRecDepth 20000 in
theorem u_377_0 {d : Nat} {V : xF} {D : yD} {Q : xRes → xF → yD → Prop}
    (h : RY d 377 2 [vr 248, vi 0, vr 0, vr 0] [] V D Q) :
    RY d 377 0 [vr 248, vr 0, vr 0, vr 0] [] V D Q := yat (c := xk_377) (hd := [3770002, 3770041]) (dk := []) (dv := []) (nb := []) rfl h
set_option maxRecDepth 20000 in
theorem u_377_2 {d : Nat} {i1 : Int} {v2 v3 : xV} {V : xF} {D : yD} {Q : xRes → xF → yD → Prop}
    (h : ((400 : Int) ≤ i1 → Q (.inl (some (vi 0))) V D) ∧ (i1 < 400 → RY d 362 0 [vr 76, vi 0, vi 999, vr 0] [] V D (yback d 377 20 [vr 248, vi i1, v2, v3] [] Q))) :
    RY d 377 2 [vr 248, vi i1, v2, v3] [] V D Q := yat (c := xk_377) (hd := [3770002, 3770041]) (dk := []) (dv := []) (nb := [3770006]) rfl h
set_option maxRecDepth 20000 in
theorem u_377_20 {d : Nat} {i1 i_0 : Int} {v2 v3 : xV} {V : xF} {D : yD} {Q : xRes → xF → yD → Prop}
    (h : (i_0 = 0 → RY d 377 41 [vr 248, vi i1, vi ((-1)), vi 0] [] V D Q) ∧ (i_0 ≠ 0 → (((800 : Int) ≤ (V 248 6) → RY d 300 0 [vr 76, vi 43] [] V D (yback d 377 110 [vr 248, vi i1, v2, v3] [] Q)) ∧ ((V 248 6) < 800 → (((0 : Int) ≤ V 248 6 ∧ V 248 6 < (800 : Int)) ∧ (∀ V1 : xF, V1 = up2 V 252 ((V 248 6).toNat) (V 76 6) → ∀ V2 : xF, V2 = up2 V1 248 6 (wr ((V1 248 6) + 1)) → RY d 300 0 [vr 76, vi 43] [] V2 D (yback d 377 110 [vr 248, vi i1, v2, v3] [] Q))))))) :
    RY d 377 20 [vr 248, vi i1, v2, v3] [vi i_0] V D Q := yat (c := xk_377) (hd := [3770002, 3770041]) (dk := []) (dv := [3730019]) (nb := [3730007, 3770020]) rfl h
set_option maxRecDepth 20000 in
theorem u_377_41 {d : Nat} {i1 i2 i3 : Int} {V : xF} {D : yD} {Q : xRes → xF → yD → Prop}
    (h : ((8 : Int) ≤ i3 → ((i2 ≠ ((-1)) → (((800 : Int) ≤ (V 248 6) → (((0 : Int) ≤ V 76 5 ∧ V 76 5 < (401 : Int)) ∧ (((V 78 ((V 76 5).toNat)) = 3 → RY d 300 0 [vr 76, vi 43] [] V D (yback d 377 110 [vr 248, vi i1, vi i2, vi i3] [] Q)) ∧ ((V 78 ((V 76 5).toNat)) ≠ 3 → ∀ V1 : xF, V1 = up2 V 76 5 (wr ((V 76 5) + 1)) → RY d 300 0 [vr 76, vi 43] [] V1 D (yback d 377 110 [vr 248, vi i1, vi i2, vi i3] [] Q))))) ∧ ((V 248 6) < 800 → (((0 : Int) ≤ V 248 6 ∧ V 248 6 < (800 : Int)) ∧ (∀ V2 : xF, V2 = up2 V 252 ((V 248 6).toNat) (wr ((1000 : Int) + i2)) → ∀ V3 : xF, V3 = up2 V2 248 6 (wr ((V2 248 6) + 1)) → (((0 : Int) ≤ V3 76 5 ∧ V3 76 5 < (401 : Int)) ∧ (((V3 78 ((V3 76 5).toNat)) = 3 → RY d 300 0 [vr 76, vi 43] [] V3 D (yback d 377 110 [vr 248, vi i1, vi i2, vi i3] [] Q)) ∧ ((V3 78 ((V3 76 5).toNat)) ≠ 3 → ∀ V4 : xF, V4 = up2 V3 76 5 (wr ((V3 76 5) + 1)) → RY d 300 0 [vr 76, vi 43] [] V4 D (yback d 377 110 [vr 248, vi i1, vi i2, vi i3] [] Q))))))))) ∧ (i2 = ((-1)) → Q (.inl (some (vi 0))) V D))) ∧ (i3 < 8 → ((i2 ≠ ((-1)) → ((i2 ≠ ((-1)) → (((800 : Int) ≤ (V 248 6) → (((0 : Int) ≤ V 76 5 ∧ V 76 5 < (401 : Int)) ∧ (((V 78 ((V 76 5).toNat)) = 3 → RY d 300 0 [vr 76, vi 43] [] V D (yback d 377 110 [vr 248, vi i1, vi i2, vi i3] [] Q)) ∧ ((V 78 ((V 76 5).toNat)) ≠ 3 → ∀ V5 : xF, V5 = up2 V 76 5 (wr ((V 76 5) + 1)) → RY d 300 0 [vr 76, vi 43] [] V5 D (yback d 377 110 [vr 248, vi i1, vi i2, vi i3] [] Q))))) ∧ ((V 248 6) < 800 → (((0 : Int) ≤ V 248 6 ∧ V 248 6 < (800 : Int)) ∧ (∀ V6 : xF, V6 = up2 V 252 ((V 248 6).toNat) (wr ((1000 : Int) + i2)) → ∀ V7 : xF, V7 = up2 V6 248 6 (wr ((V6 248 6) + 1)) → (((0 : Int) ≤ V7 76 5 ∧ V7 76 5 < (401 : Int)) ∧ (((V7 78 ((V7 76 5).toNat)) = 3 → RY d 300 0 [vr 76, vi 43] [] V7 D (yback d 377 110 [vr 248, vi i1, vi i2, vi i3] [] Q)) ∧ ((V7 78 ((V7 76 5).toNat)) ≠ 3 → ∀ V8 : xF, V8 = up2 V7 76 5 (wr ((V7 76 5) + 1)) → RY d 300 0 [vr 76, vi 43] [] V8 D (yback d 377 110 [vr 248, vi i1, vi i2, vi i3] [] Q))))))))) ∧ (i2 = ((-1)) → Q (.inl (some (vi 0))) V D))) ∧ (i2 = ((-1)) → RY d 379 0 [vi i3] [] V D (yback d 377 60 [vr 248, vi i1, vi i2, vi i3] [vr 76] Q))))) :
    RY d 377 41 [vr 248, vi i1, vi i2, vi i3] [] V D Q := yat (c := xk_377) (hd := [3770002, 3770041]) (dk := []) (dv := [3580008, 3730019]) (nb := [3580010, 3730007, 3770044, 3770049, 3770080]) rfl h
set_option maxRecDepth 20000 in
theorem u_377_60 {d : Nat} {a_1 : Nat} {i1 i2 i3 : Int} {V : xF} {D : yD} {Q : xRes → xF → yD → Prop}
    (h : RY d 349 0 [vr 76, vr a_1, vr 0] [] V D (yback d 377 63 [vr 248, vi i1, vi i2, vi i3] [] Q)) :
    RY d 377 60 [vr 248, vi i1, vi i2, vi i3] [vr a_1, vr 76] V D Q := yat (c := xk_377) (hd := [3770002, 3770041]) (dk := []) (dv := []) (nb := []) rfl h
set_option maxRecDepth 20000 in
theorem u_377_63 {d : Nat} {i1 i2 i3 i_0 : Int} {V : xF} {D : yD} {Q : xRes → xF → yD → Prop}
    (h : (i_0 = 0 → RY d 377 41 [vr 248, vi i1, vi ((-1)), vi (wr (i3 + 1))] [] V D Q) ∧ (i_0 ≠ 0 → RY d 377 41 [vr 248, vi i1, vi i3, vi (wr (i3 + 1))] [] V D Q)) :
    RY d 377 63 [vr 248, vi i1, vi i2, vi i3] [vi i_0] V D Q := yat (c := xk_377) (hd := [3770002, 3770041]) (dk := []) (dv := []) (nb := [3770063]) rfl h
set_option maxRecDepth 20000 in
theorem u_377_110 {d : Nat} {i1 i_0 : Int} {v2 v3 : xV} {V : xF} {D : yD} {Q : xRes → xF → yD → Prop}
    (h : (i_0 ≠ 0 → RY d 377 2 [vr 248, vi (wr (i1 + 1)), v2, v3] [] V D Q) ∧ (i_0 = 0 → Q (.inl (some (vi 1))) V D)) :
    RY d 377 110 [vr 248, vi i1, v2, v3] [vi i_0] V D Q := yat (c := xk_377) (hd := [3770002, 3770041]) (dk := []) (dv := []) (nb := [3770110]) rfl h
set_option maxRecDepth 20000 in
theorem u_378_0 {d : Nat} {V : xF} {D : yD} {Q : xRes → xF → yD → Prop}
    (h : RY d 380 0 [vr 405, vr 0] [] V D (yback d 378 4 [vr 405, vr 0] [] Q)) :
    RY d 378 0 [vr 405, vr 0] [] V D Q := yat (c := xk_378) (hd := [3780005]) (dk := []) (dv := []) (nb := []) rfl h
set_option maxRecDepth 20000 in
theorem u_378_4 {d : Nat} {i_0 : Int} {V : xF} {D : yD} {Q : xRes → xF → yD → Prop}
    (h : RY d 378 5 [vr 405, vi i_0] [] V D Q) :
    RY d 378 4 [vr 405, vr 0] [vi i_0] V D Q := yat (c := xk_378) (hd := [3780005]) (dk := []) (dv := []) (nb := []) rfl h
set_option maxRecDepth 20000 in
theorem u_378_5 {d : Nat} {i1 : Int} {V : xF} {D : yD} {Q : xRes → xF → yD → Prop}
    (h : ((V 405 12) ≠ ((-1)) → Q (.inl (some (vi i1))) V D) ∧ ((V 405 12) = ((-1)) → RY d 232 0 [vr 405, vi 43] [] V D (yback d 378 19 [vr 405, vi i1] [] Q))) :
    RY d 378 5 [vr 405, vi i1] [] V D Q := yat (c := xk_378) (hd := [3780005]) (dk := []) (dv := []) (nb := [3780010]) rfl h
set_option maxRecDepth 20000 in
theorem u_378_19 {d : Nat} {i1 i_0 : Int} {V : xF} {D : yD} {Q : xRes → xF → yD → Prop}
    (h : (i_0 = 0 → Q (.inl (some (vi i1))) V D) ∧ (i_0 ≠ 0 → ∀ V1 : xF, V1 = up2 V 405 11 (wr ((V 405 11) + 1)) → RY d 380 0 [vr 405, vr 0] [] V1 D (yback d 378 37 [vr 405, vi i1] [vi i1] Q))) :
    RY d 378 19 [vr 405, vi i1] [vi i_0] V D Q := yat (c := xk_378) (hd := [3780005]) (dk := []) (dv := []) (nb := [3780019]) rfl h
set_option maxRecDepth 20000 in
theorem u_378_37 {d : Nat} {i1 i_0 i_1 : Int} {V : xF} {D : yD} {Q : xRes → xF → yD → Prop}
    (h : RY d 378 5 [vr 405, vi (wr (i_0 + i_1))] [] V D Q) :
    RY d 378 37 [vr 405, vi i1] [vi i_1, vi i_0] V D Q := yat (c := xk_378) (hd := [3780005]) (dk := []) (dv := []) (nb := []) rfl h
set_option maxRecDepth 20000 in
theorem u_379_0 {d : Nat} {i0 : Int} {V : xF} {D : yD} {Q : xRes → xF → yD → Prop}
    (h : ((i0 = 0 → Q (.inl (some (vr 29))) V D) ∧ (i0 = 1 → Q (.inl (some (vr 30))) V D) ∧ (i0 = 2 → Q (.inl (some (vr 31))) V D) ∧ (i0 = 3 → Q (.inl (some (vr 32))) V D) ∧ (i0 = 4 → Q (.inl (some (vr 33))) V D) ∧ (i0 = 5 → Q (.inl (some (vr 34))) V D) ∧ (i0 = 6 → Q (.inl (some (vr 35))) V D) ∧ True) ∧ ((i0 < 0 ∨ (0 : Int) + 7 ≤ i0) → Q (.inl (some (vr 36))) V D)) :
    RY d 379 0 [vi i0] [] V D Q := yat (c := xk_379) (hd := []) (dk := []) (dv := []) (nb := []) rfl h
set_option maxRecDepth 20000 in
theorem u_380_0 {d : Nat} {V : xF} {D : yD} {Q : xRes → xF → yD → Prop}
    (h : ((V 405 12) = ((-1)) → RY d 228 0 [vr 405] [] V D (yback d 380 14 [vr 405, vr 0] [] Q)) ∧ ((V 405 12) ≠ ((-1)) → Q (.inl (some (vi 0))) V D)) :
    RY d 380 0 [vr 405, vr 0] [] V D Q := yat (c := xk_380) (hd := []) (dk := []) (dv := []) (nb := [3800005]) rfl h
set_option maxRecDepth 20000 in
theorem u_380_14 {d : Nat} {V : xF} {D : yD} {Q : xRes → xF → yD → Prop}
    (h : ((V 405 10) ≤ (V 405 11) → RY d 302 0 [vr 405, vr 46, vr 0, vr 0] [] V D (yback d 380 58 [vr 405, vr 0] [] Q)) ∧ ((V 405 11) < (V 405 10) → (yg_301 (V 405 11) V D ∧ (((yr_124 (yr_301 (V 405 11) V D) 48 57 V D) = 0 → RY d 302 0 [vr 405, vr 46, vr 0, vr 0] [] V D (yback d 380 58 [vr 405, vr 0] [] Q)) ∧ ((yr_124 (yr_301 (V 405 11) V D) 48 57 V D) ≠ 0 → RY d 303 0 [vr 405, vi 0, vi 999, vr 0, vr 0] [] V D (yback d 380 51 [vr 405, vr 0] [] Q)))))) :
    RY d 380 14 [vr 405, vr 0] [] V D Q := yat (c := xk_380) (hd := []) (dk := []) (dv := []) (nb := [3800022, 3800040]) rfl h
set_option maxRecDepth 20000 in
theorem u_380_51 {d : Nat} {i_0 : Int} {V : xF} {D : yD} {Q : xRes → xF → yD → Prop}
    (h : Q (.inl (some (vi i_0))) V D) :
    RY d 380 51 [vr 405, vr 0] [vi i_0] V D Q := yat (c := xk_380) (hd := []) (dk := []) (dv := []) (nb := []) rfl h
set_option maxRecDepth 20000 in
theorem u_380_58 {d : Nat} {i_0 : Int} {V : xF} {D : yD} {Q : xRes → xF → yD → Prop}
    (h : (i_0 = 0 → RY d 302 0 [vr 405, vr 47, vr 0, vr 0] [] V D (yback d 380 71 [vr 405, vr 0] [] Q)) ∧ (i_0 ≠ 0 → Q (.inl (some (vi (V 411 0)))) V D)) :
    RY d 380 58 [vr 405, vr 0] [vi i_0] V D Q := yat (c := xk_380) (hd := []) (dk := []) (dv := []) (nb := [3800058]) rfl h
set_option maxRecDepth 20000 in
theorem u_380_71 {d : Nat} {i_0 : Int} {V : xF} {D : yD} {Q : xRes → xF → yD → Prop}
    (h : (i_0 = 0 → RY d 302 0 [vr 405, vr 48, vr 0, vr 0] [] V D (yback d 380 84 [vr 405, vr 0] [] Q)) ∧ (i_0 ≠ 0 → Q (.inl (some (vi (V 411 1)))) V D)) :
    RY d 380 71 [vr 405, vr 0] [vi i_0] V D Q := yat (c := xk_380) (hd := []) (dk := []) (dv := []) (nb := [3800071]) rfl h
set_option maxRecDepth 20000 in
theorem u_380_84 {d : Nat} {i_0 : Int} {V : xF} {D : yD} {Q : xRes → xF → yD → Prop}
    (h : (i_0 = 0 → RY d 302 0 [vr 405, vr 49, vr 0, vr 0] [] V D (yback d 380 97 [vr 405, vr 0] [] Q)) ∧ (i_0 ≠ 0 → Q (.inl (some (vi (V 411 2)))) V D)) :
    RY d 380 84 [vr 405, vr 0] [vi i_0] V D Q := yat (c := xk_380) (hd := []) (dk := []) (dv := []) (nb := [3800084]) rfl h
set_option maxRecDepth 20000 in
theorem u_380_97 {d : Nat} {i_0 : Int} {V : xF} {D : yD} {Q : xRes → xF → yD → Prop}
    (h : (i_0 = 0 → RY d 302 0 [vr 405, vr 50, vr 0, vr 0] [] V D (yback d 380 110 [vr 405, vr 0] [] Q)) ∧ (i_0 ≠ 0 → Q (.inl (some (vi (V 411 3)))) V D)) :
    RY d 380 97 [vr 405, vr 0] [vi i_0] V D Q := yat (c := xk_380) (hd := []) (dk := []) (dv := []) (nb := [3800097]) rfl h
set_option maxRecDepth 20000 in
theorem u_380_110 {d : Nat} {i_0 : Int} {V : xF} {D : yD} {Q : xRes → xF → yD → Prop}
    (h : (i_0 = 0 → RY d 302 0 [vr 405, vr 51, vr 0, vr 0] [] V D (yback d 380 123 [vr 405, vr 0] [] Q)) ∧ (i_0 ≠ 0 → Q (.inl (some (vi (V 411 4)))) V D)) :
    RY d 380 110 [vr 405, vr 0] [vi i_0] V D Q := yat (c := xk_380) (hd := []) (dk := []) (dv := []) (nb := [3800110]) rfl h
set_option maxRecDepth 20000 in
theorem u_380_123 {d : Nat} {i_0 : Int} {V : xF} {D : yD} {Q : xRes → xF → yD → Prop}
    (h : (i_0 = 0 → RY d 302 0 [vr 405, vr 52, vr 0, vr 0] [] V D (yback d 380 136 [vr 405, vr 0] [] Q)) ∧ (i_0 ≠ 0 → Q (.inl (some (vi (V 411 5)))) V D)) :
    RY d 380 123 [vr 405, vr 0] [vi i_0] V D Q := yat (c := xk_380) (hd := []) (dk := []) (dv := []) (nb := [3800123]) rfl h
set_option maxRecDepth 20000 in
theorem u_380_136 {d : Nat} {i_0 : Int} {V : xF} {D : yD} {Q : xRes → xF → yD → Prop}
    (h : (i_0 = 0 → RY d 302 0 [vr 405, vr 53, vr 0, vr 0] [] V D (yback d 380 150 [vr 405, vr 0] [] Q)) ∧ (i_0 ≠ 0 → Q (.inl (some (vi (V 411 6)))) V D)) :
    RY d 380 136 [vr 405, vr 0] [vi i_0] V D Q := yat (c := xk_380) (hd := []) (dk := []) (dv := []) (nb := [3800136]) rfl h
set_option maxRecDepth 20000 in
theorem u_380_150 {d : Nat} {i_0 : Int} {V : xF} {D : yD} {Q : xRes → xF → yD → Prop}
    (h : (i_0 = 0 → (((V 405 12) ≠ ((-1)) → Q (.inl (some (vi 0))) V D) ∧ ((V 405 12) = ((-1)) → ∀ V1 : xF, V1 = up2 V 405 12 (V 405 11) → Q (.inl (some (vi 0))) V1 D))) ∧ (i_0 ≠ 0 → Q (.inl (some (vi (V 411 7)))) V D)) :
    RY d 380 150 [vr 405, vr 0] [vi i_0] V D Q := yat (c := xk_380) (hd := []) (dk := []) (dv := []) (nb := [2290005, 3800150]) rfl h
set_option maxRecDepth 20000 in
theorem u_381_23 {d : Nat} {i4 : Int} {v5 v6 : xV} {V : xF} {D : yD} {Q : xRes → xF → yD → Prop}
    (h : (20 ≤ (yK D.2.2.1 1).1 ∧ (yK D.2.2.1 1).1 ≤ 25) ∧ (((wr ((((yK D.2.2.1 1).2 : Int)) - 6)) < i4 → Q (.inl (some (vi 1))) V D) ∧ (i4 ≤ (wr ((((yK D.2.2.1 1).2 : Int)) - 6)) → ((20 ≤ (yK D.2.2.1 1).1 ∧ (yK D.2.2.1 1).1 ≤ 21) ∧ ((0 : Int) ≤ i4 ∧ i4 < ((yK D.2.2.1 1).2 : Int)) ∧ ((((xand (V 1 i4.toNat) 63) = 0 → ((20 ≤ (yK D.2.2.1 1).1 ∧ (yK D.2.2.1 1).1 ≤ 21) ∧ ((0 : Int) ≤ wr (i4 + 1) ∧ wr (i4 + 1) < ((yK D.2.2.1 1).2 : Int)) ∧ (20 ≤ (yK D.2.2.1 1).1 ∧ (yK D.2.2.1 1).1 ≤ 21) ∧ ((0 : Int) ≤ wr (i4 + 2) ∧ wr (i4 + 2) < ((yK D.2.2.1 1).2 : Int)) ∧ (20 ≤ (yK D.2.2.1 1).1 ∧ (yK D.2.2.1 1).1 ≤ 21) ∧ ((0 : Int) ≤ wr (i4 + 3) ∧ wr (i4 + 3) < ((yK D.2.2.1 1).2 : Int)) ∧ (20 ≤ (yK D.2.2.1 1).1 ∧ (yK D.2.2.1 1).1 ≤ 21) ∧ ((0 : Int) ≤ wr (i4 + 4) ∧ wr (i4 + 4) < ((yK D.2.2.1 1).2 : Int)) ∧ (20 ≤ (yK D.2.2.1 1).1 ∧ (yK D.2.2.1 1).1 ≤ 21) ∧ ((0 : Int) ≤ wr (i4 + 5) ∧ wr (i4 + 5) < ((yK D.2.2.1 1).2 : Int)) ∧ RY d 2 0 [vr 70, vi (V 1 ((wr (i4 + 1)).toNat)), vi (V 1 ((wr (i4 + 2)).toNat)), vi (V 1 ((wr (i4 + 3)).toNat)), vi (V 1 ((wr (i4 + 4)).toNat)), vi (V 1 ((wr (i4 + 5)).toNat))] [] V D (yback d 381 306 [vr 1, vr 70, vr 405, vr 420, vi i4, v5, v6] [] Q))) ∧ ((xand (V 1 i4.toNat) 63) = 1 → ((20 ≤ (yK D.2.2.1 1).1 ∧ (yK D.2.2.1 1).1 ≤ 21) ∧ ((0 : Int) ≤ wr (i4 + 1) ∧ wr (i4 + 1) < ((yK D.2.2.1 1).2 : Int)) ∧ RY d 4 0 [vr 70, vi (V 1 ((wr (i4 + 1)).toNat))] [] V D (yback d 381 355 [vr 1, vr 70, vr 405, vr 420, vi i4, v5, v6] [] Q))) ∧ ((xand (V 1 i4.toNat) 63) = 2 → RY d 6 0 [vr 70, vr 420, vr 0] [] V D (yback d 381 375 [vr 1, vr 70, vr 405, vr 420, vi i4, v5, v6] [] Q)) ∧ ((xand (V 1 i4.toNat) 63) = 3 → RY d 9 0 [vr 70, vr 420, vr 0] [] V D (yback d 381 419 [vr 1, vr 70, vr 405, vr 420, vi i4, v5, v6] [] Q)) ∧ ((xand (V 1 i4.toNat) 63) = 4 → ∀ V1 : xF, V1 = up2 V 405 0 0 → (((yr_11 V D) = (V1 405 12) → RY d 381 23 [vr 1, vr 70, vr 405, vr 420, vi (wr (i4 + 6)), v5, v6] [] V1 D Q) ∧ ((yr_11 V D) ≠ (V1 405 12) → Q (.inl (some (vi 0))) V1 D))) ∧ ((xand (V 1 i4.toNat) 63) = 5 → ((20 ≤ (yK D.2.2.1 1).1 ∧ (yK D.2.2.1 1).1 ≤ 21) ∧ ((0 : Int) ≤ wr (i4 + 1) ∧ wr (i4 + 1) < ((yK D.2.2.1 1).2 : Int)) ∧ (20 ≤ (yK D.2.2.1 1).1 ∧ (yK D.2.2.1 1).1 ≤ 21) ∧ ((0 : Int) ≤ wr (i4 + 2) ∧ wr (i4 + 2) < ((yK D.2.2.1 1).2 : Int)) ∧ RY d 13 0 [vr 70, vi (V 1 ((wr (i4 + 1)).toNat)), vi (V 1 ((wr (i4 + 2)).toNat)), vr 420, vr 0] [] V D (yback d 381 488 [vr 1, vr 70, vr 405, vr 420, vi i4, v5, v6] [] Q))) ∧ ((xand (V 1 i4.toNat) 63) = 6 → ((20 ≤ (yK D.2.2.1 1).1 ∧ (yK D.2.2.1 1).1 ≤ 21) ∧ ((0 : Int) ≤ wr (i4 + 1) ∧ wr (i4 + 1) < ((yK D.2.2.1 1).2 : Int)) ∧ (20 ≤ (yK D.2.2.1 1).1 ∧ (yK D.2.2.1 1).1 ≤ 21) ∧ ((0 : Int) ≤ wr (i4 + 2) ∧ wr (i4 + 2) < ((yK D.2.2.1 1).2 : Int)) ∧ RY d 15 0 [vr 70, vi (V 1 ((wr (i4 + 1)).toNat)), vi (V 1 ((wr (i4 + 2)).toNat)), vr 420, vr 0] [] V D (yback d 381 556 [vr 1, vr 70, vr 405, vr 420, vi i4, v5, v6] [] Q))) ∧ ((xand (V 1 i4.toNat) 63) = 7 → ((20 ≤ (yK D.2.2.1 1).1 ∧ (yK D.2.2.1 1).1 ≤ 21) ∧ ((0 : Int) ≤ wr (i4 + 1) ∧ wr (i4 + 1) < ((yK D.2.2.1 1).2 : Int)) ∧ (20 ≤ (yK D.2.2.1 1).1 ∧ (yK D.2.2.1 1).1 ≤ 21) ∧ ((0 : Int) ≤ wr (i4 + 2) ∧ wr (i4 + 2) < ((yK D.2.2.1 1).2 : Int)) ∧ RY d 17 0 [vr 70, vi (V 1 ((wr (i4 + 1)).toNat)), vi (V 1 ((wr (i4 + 2)).toNat)), vr 420, vr 0] [] V D (yback d 381 624 [vr 1, vr 70, vr 405, vr 420, vi i4, v5, v6] [] Q))) ∧ ((xand (V 1 i4.toNat) 63) = 8 → ((20 ≤ (yK D.2.2.1 1).1 ∧ (yK D.2.2.1 1).1 ≤ 21) ∧ ((0 : Int) ≤ wr (i4 + 1) ∧ wr (i4 + 1) < ((yK D.2.2.1 1).2 : Int)) ∧ (20 ≤ (yK D.2.2.1 1).1 ∧ (yK D.2.2.1 1).1 ≤ 21) ∧ ((0 : Int) ≤ wr (i4 + 2) ∧ wr (i4 + 2) < ((yK D.2.2.1 1).2 : Int)) ∧ RY d 19 0 [vr 70, vi (V 1 ((wr (i4 + 1)).toNat)), vi (V 1 ((wr (i4 + 2)).toNat)), vr 420, vr 0] [] V D (yback d 381 692 [vr 1, vr 70, vr 405, vr 420, vi i4, v5, v6] [] Q))) ∧ ((xand (V 1 i4.toNat) 63) = 9 → ((20 ≤ (yK D.2.2.1 1).1 ∧ (yK D.2.2.1 1).1 ≤ 21) ∧ ((0 : Int) ≤ wr (i4 + 1) ∧ wr (i4 + 1) < ((yK D.2.2.1 1).2 : Int)) ∧ (20 ≤ (yK D.2.2.1 1).1 ∧ (yK D.2.2.1 1).1 ≤ 21) ∧ ((0 : Int) ≤ wr (i4 + 2) ∧ wr (i4 + 2) < ((yK D.2.2.1 1).2 : Int)) ∧ RY d 21 0 [vr 70, vi (V 1 ((wr (i4 + 1)).toNat)), vi (V 1 ((wr (i4 + 2)).toNat)), vr 420, vr 0] [] V D (yback d 381 767 [vr 1, vr 70, vr 405, vr 420, vi i4, v5, v6] [] Q))) ∧ ((xand (V 1 i4.toNat) 63) = 10 → ((20 ≤ (yK D.2.2.1 1).1 ∧ (yK D.2.2.1 1).1 ≤ 21) ∧ ((0 : Int) ≤ wr (i4 + 1) ∧ wr (i4 + 1) < ((yK D.2.2.1 1).2 : Int)) ∧ (20 ≤ (yK D.2.2.1 1).1 ∧ (yK D.2.2.1 1).1 ≤ 21) ∧ ((0 : Int) ≤ wr (i4 + 2) ∧ wr (i4 + 2) < ((yK D.2.2.1 1).2 : Int)) ∧ (20 ≤ (yK D.2.2.1 1).1 ∧ (yK D.2.2.1 1).1 ≤ 21) ∧ ((0 : Int) ≤ wr (i4 + 3) ∧ wr (i4 + 3) < ((yK D.2.2.1 1).2 : Int)) ∧ (20 ≤ (yK D.2.2.1 1).1 ∧ (yK D.2.2.1 1).1 ≤ 21) ∧ ((0 : Int) ≤ wr (i4 + 4) ∧ wr (i4 + 4) < ((yK D.2.2.1 1).2 : Int)) ∧ (20 ≤ (yK D.2.2.1 1).1 ∧ (yK D.2.2.1 1).1 ≤ 21) ∧ ((0 : Int) ≤ wr (i4 + 5) ∧ wr (i4 + 5) < ((yK D.2.2.1 1).2 : Int)) ∧ (((V 1 ((wr (i4 + 5)).toNat)) = 0 → RY d 23 0 [vr 70, vi (V 1 ((wr (i4 + 1)).toNat)), vi (V 1 ((wr (i4 + 2)).toNat)), vi (V 1 ((wr (i4 + 3)).toNat)), vi (V 1 ((wr (i4 + 4)).toNat)), vi 0, vr 420, vr 0] [] V D (yback d 381 868 [vr 1, vr 70, vr 405, vr 420, vi i4, v5, v6] [] Q)) ∧ ((V 1 ((wr (i4 + 5)).toNat)) ≠ 0 → RY d 23 0 [vr 70, vi (V 1 ((wr (i4 + 1)).toNat)), vi (V 1 ((wr (i4 + 2)).toNat)), vi (V 1 ((wr (i4 + 3)).toNat)), vi (V 1 ((wr (i4 + 4)).toNat)), vi 1, vr 420, vr 0] [] V D (yback d 381 868 [vr 1, vr 70, vr 405, vr 420, vi i4, v5, v6] [] Q))))) ∧ ((xand (V 1 i4.toNat) 63) = 11 → ((20 ≤ (yK D.2.2.1 1).1 ∧ (yK D.2.2.1 1).1 ≤ 21) ∧ ((0 : Int) ≤ wr (i4 + 1) ∧ wr (i4 + 1) < ((yK D.2.2.1 1).2 : Int)) ∧ RY d 25 0 [vr 70, vi (V 1 ((wr (i4 + 1)).toNat)), vr 420, vr 0] [] V D (yback d 381 956 [vr 1, vr 70, vr 405, vr 420, vi i4, v5, v6] [] Q))) ∧ ((xand (V 1 i4.toNat) 63) = 12 → ((20 ≤ (yK D.2.2.1 1).1 ∧ (yK D.2.2.1 1).1 ≤ 21) ∧ ((0 : Int) ≤ wr (i4 + 1) ∧ wr (i4 + 1) < ((yK D.2.2.1 1).2 : Int)) ∧ RY d 27 0 [vr 70, vi (V 1 ((wr (i4 + 1)).toNat)), vr 420, vr 0] [] V D (yback d 381 1012 [vr 1, vr 70, vr 405, vr 420, vi i4, v5, v6] [] Q))) ∧ ((xand (V 1 i4.toNat) 63) = 13 → ((20 ≤ (yK D.2.2.1 1).1 ∧ (yK D.2.2.1 1).1 ≤ 21) ∧ ((0 : Int) ≤ wr (i4 + 1) ∧ wr (i4 + 1) < ((yK D.2.2.1 1).2 : Int)) ∧ RY d 29 0 [vr 70, vi (V 1 ((wr (i4 + 1)).toNat)), vr 420, vr 0] [] V D (yback d 381 1068 [vr 1, vr 70, vr 405, vr 420, vi i4, v5, v6] [] Q))) ∧ ((xand (V 1 i4.toNat) 63) = 14 → RY d 31 0 [vr 70, vr 420, vr 0] [] V D (yback d 381 1118 [vr 1, vr 70, vr 405, vr 420, vi i4, v5, v6] [] Q)) ∧ ((xand (V 1 i4.toNat) 63) = 15 → ((20 ≤ (yK D.2.2.1 1).1 ∧ (yK D.2.2.1 1).1 ≤ 21) ∧ ((0 : Int) ≤ wr (i4 + 1) ∧ wr (i4 + 1) < ((yK D.2.2.1 1).2 : Int)) ∧ (20 ≤ (yK D.2.2.1 1).1 ∧ (yK D.2.2.1 1).1 ≤ 21) ∧ ((0 : Int) ≤ wr (i4 + 2) ∧ wr (i4 + 2) < ((yK D.2.2.1 1).2 : Int)) ∧ (20 ≤ (yK D.2.2.1 1).1 ∧ (yK D.2.2.1 1).1 ≤ 21) ∧ ((0 : Int) ≤ wr (i4 + 3) ∧ wr (i4 + 3) < ((yK D.2.2.1 1).2 : Int)) ∧ RY d 33 0 [vr 70, vi (V 1 ((wr (i4 + 1)).toNat)), vi (V 1 ((wr (i4 + 2)).toNat)), vi (V 1 ((wr (i4 + 3)).toNat)), vr 420, vr 0] [] V D (yback d 381 1180 [vr 1, vr 70, vr 405, vr 420, vi i4, v5, v6] [] Q))) ∧ ((xand (V 1 i4.toNat) 63) = 16 → ((20 ≤ (yK D.2.2.1 1).1 ∧ (yK D.2.2.1 1).1 ≤ 21) ∧ ((0 : Int) ≤ wr (i4 + 1) ∧ wr (i4 + 1) < ((yK D.2.2.1 1).2 : Int)) ∧ (20 ≤ (yK D.2.2.1 1).1 ∧ (yK D.2.2.1 1).1 ≤ 21) ∧ ((0 : Int) ≤ wr (i4 + 2) ∧ wr (i4 + 2) < ((yK D.2.2.1 1).2 : Int)) ∧ (20 ≤ (yK D.2.2.1 1).1 ∧ (yK D.2.2.1 1).1 ≤ 21) ∧ ((0 : Int) ≤ wr (i4 + 3) ∧ wr (i4 + 3) < ((yK D.2.2.1 1).2 : Int)) ∧ (((V 1 ((wr (i4 + 3)).toNat)) = 0 → RY d 35 0 [vr 70, vi (V 1 ((wr (i4 + 1)).toNat)), vi (V 1 ((wr (i4 + 2)).toNat)), vi 0, vr 420, vr 0] [] V D (yback d 381 1268 [vr 1, vr 70, vr 405, vr 420, vi i4, v5, v6] [] Q)) ∧ ((V 1 ((wr (i4 + 3)).toNat)) ≠ 0 → RY d 35 0 [vr 70, vi (V 1 ((wr (i4 + 1)).toNat)), vi (V 1 ((wr (i4 + 2)).toNat)), vi 1, vr 420, vr 0] [] V D (yback d 381 1268 [vr 1, vr 70, vr 405, vr 420, vi i4, v5, v6] [] Q))))) ∧ ((xand (V 1 i4.toNat) 63) = 17 → ((20 ≤ (yK D.2.2.1 1).1 ∧ (yK D.2.2.1 1).1 ≤ 21) ∧ ((0 : Int) ≤ wr (i4 + 1) ∧ wr (i4 + 1) < ((yK D.2.2.1 1).2 : Int)) ∧ (20 ≤ (yK D.2.2.1 1).1 ∧ (yK D.2.2.1 1).1 ≤ 21) ∧ ((0 : Int) ≤ wr (i4 + 2) ∧ wr (i4 + 2) < ((yK D.2.2.1 1).2 : Int)) ∧ RY d 37 0 [vr 70, vi (V 1 ((wr (i4 + 1)).toNat)), vi (V 1 ((wr (i4 + 2)).toNat)), vr 420, vr 0] [] V D (yback d 381 1357 [vr 1, vr 70, vr 405, vr 420, vi i4, v5, v6] [] Q))) ∧ ((xand (V 1 i4.toNat) 63) = 18 → ((20 ≤ (yK D.2.2.1 1).1 ∧ (yK D.2.2.1 1).1 ≤ 21) ∧ ((0 : Int) ≤ wr (i4 + 1) ∧ wr (i4 + 1) < ((yK D.2.2.1 1).2 : Int)) ∧ (20 ≤ (yK D.2.2.1 1).1 ∧ (yK D.2.2.1 1).1 ≤ 21) ∧ ((0 : Int) ≤ wr (i4 + 2) ∧ wr (i4 + 2) < ((yK D.2.2.1 1).2 : Int)) ∧ RY d 39 0 [vr 70, vi (V 1 ((wr (i4 + 1)).toNat)), vi (V 1 ((wr (i4 + 2)).toNat)), vr 420, vr 0] [] V D (yback d 381 1425 [vr 1, vr 70, vr 405, vr 420, vi i4, v5, v6] [] Q))) ∧ ((xand (V 1 i4.toNat) 63) = 19 → ((20 ≤ (yK D.2.2.1 1).1 ∧ (yK D.2.2.1 1).1 ≤ 21) ∧ ((0 : Int) ≤ wr (i4 + 1) ∧ wr (i4 + 1) < ((yK D.2.2.1 1).2 : Int)) ∧ (20 ≤ (yK D.2.2.1 1).1 ∧ (yK D.2.2.1 1).1 ≤ 21) ∧ ((0 : Int) ≤ wr (i4 + 2) ∧ wr (i4 + 2) < ((yK D.2.2.1 1).2 : Int)) ∧ (20 ≤ (yK D.2.2.1 1).1 ∧ (yK D.2.2.1 1).1 ≤ 21) ∧ ((0 : Int) ≤ wr (i4 + 3) ∧ wr (i4 + 3) < ((yK D.2.2.1 1).2 : Int)) ∧ RY d 41 0 [vr 70, vi (V 1 ((wr (i4 + 1)).toNat)), vi (V 1 ((wr (i4 + 2)).toNat)), vi (V 1 ((wr (i4 + 3)).toNat)), vr 420, vr 0] [] V D (yback d 381 1499 [vr 1, vr 70, vr 405, vr 420, vi i4, v5, v6] [] Q))) ∧ ((xand (V 1 i4.toNat) 63) = 20 → ((20 ≤ (yK D.2.2.1 1).1 ∧ (yK D.2.2.1 1).1 ≤ 21) ∧ ((0 : Int) ≤ wr (i4 + 1) ∧ wr (i4 + 1) < ((yK D.2.2.1 1).2 : Int)) ∧ (20 ≤ (yK D.2.2.1 1).1 ∧ (yK D.2.2.1 1).1 ≤ 21) ∧ ((0 : Int) ≤ wr (i4 + 2) ∧ wr (i4 + 2) < ((yK D.2.2.1 1).2 : Int)) ∧ (20 ≤ (yK D.2.2.1 1).1 ∧ (yK D.2.2.1 1).1 ≤ 21) ∧ ((0 : Int) ≤ wr (i4 + 3) ∧ wr (i4 + 3) < ((yK D.2.2.1 1).2 : Int)) ∧ RY d 43 0 [vr 70, vi (V 1 ((wr (i4 + 1)).toNat)), vi (V 1 ((wr (i4 + 2)).toNat)), vi (V 1 ((wr (i4 + 3)).toNat)), vr 420, vr 0] [] V D (yback d 381 1579 [vr 1, vr 70, vr 405, vr 420, vi i4, v5, v6] [] Q))) ∧ ((xand (V 1 i4.toNat) 63) = 21 → ((20 ≤ (yK D.2.2.1 1).1 ∧ (yK D.2.2.1 1).1 ≤ 21) ∧ ((0 : Int) ≤ wr (i4 + 1) ∧ wr (i4 + 1) < ((yK D.2.2.1 1).2 : Int)) ∧ (20 ≤ (yK D.2.2.1 1).1 ∧ (yK D.2.2.1 1).1 ≤ 21) ∧ ((0 : Int) ≤ wr (i4 + 2) ∧ wr (i4 + 2) < ((yK D.2.2.1 1).2 : Int)) ∧ (20 ≤ (yK D.2.2.1 1).1 ∧ (yK D.2.2.1 1).1 ≤ 21) ∧ ((0 : Int) ≤ wr (i4 + 3) ∧ wr (i4 + 3) < ((yK D.2.2.1 1).2 : Int)) ∧ RY d 45 0 [vr 70, vi (V 1 ((wr (i4 + 1)).toNat)), vi (V 1 ((wr (i4 + 2)).toNat)), vi (V 1 ((wr (i4 + 3)).toNat)), vr 420, vr 0] [] V D (yback d 381 1659 [vr 1, vr 70, vr 405, vr 420, vi i4, v5, v6] [] Q))) ∧ ((xand (V 1 i4.toNat) 63) = 22 → ((20 ≤ (yK D.2.2.1 1).1 ∧ (yK D.2.2.1 1).1 ≤ 21) ∧ ((0 : Int) ≤ wr (i4 + 1) ∧ wr (i4 + 1) < ((yK D.2.2.1 1).2 : Int)) ∧ (20 ≤ (yK D.2.2.1 1).1 ∧ (yK D.2.2.1 1).1 ≤ 21) ∧ ((0 : Int) ≤ wr (i4 + 2) ∧ wr (i4 + 2) < ((yK D.2.2.1 1).2 : Int)) ∧ (20 ≤ (yK D.2.2.1 1).1 ∧ (yK D.2.2.1 1).1 ≤ 21) ∧ ((0 : Int) ≤ wr (i4 + 3) ∧ wr (i4 + 3) < ((yK D.2.2.1 1).2 : Int)) ∧ (20 ≤ (yK D.2.2.1 1).1 ∧ (yK D.2.2.1 1).1 ≤ 21) ∧ ((0 : Int) ≤ wr (i4 + 4) ∧ wr (i4 + 4) < ((yK D.2.2.1 1).2 : Int)) ∧ RY d 47 0 [vr 70, vi (V 1 ((wr (i4 + 1)).toNat)), vi (V 1 ((wr (i4 + 2)).toNat)), vi (V 1 ((wr (i4 + 3)).toNat)), vi (V 1 ((wr (i4 + 4)).toNat)), vr 420, vr 0] [] V D (yback d 381 1745 [vr 1, vr 70, vr 405, vr 420, vi i4, v5, v6] [] Q))) ∧ ((xand (V 1 i4.toNat) 63) = 23 → ((20 ≤ (yK D.2.2.1 1).1 ∧ (yK D.2.2.1 1).1 ≤ 21) ∧ ((0 : Int) ≤ wr (i4 + 1) ∧ wr (i4 + 1) < ((yK D.2.2.1 1).2 : Int)) ∧ (20 ≤ (yK D.2.2.1 1).1 ∧ (yK D.2.2.1 1).1 ≤ 21) ∧ ((0 : Int) ≤ wr (i4 + 2) ∧ wr (i4 + 2) < ((yK D.2.2.1 1).2 : Int)) ∧ (((V 1 ((wr (i4 + 2)).toNat)) = 0 → RY d 49 0 [vr 70, vi (V 1 ((wr (i4 + 1)).toNat)), vi 0, vr 420, vr 0] [] V D (yback d 381 1833 [vr 1, vr 70, vr 405, vr 420, vi i4, v5, v6] [] Q)) ∧ ((V 1 ((wr (i4 + 2)).toNat)) ≠ 0 → RY d 49 0 [vr 70, vi (V 1 ((wr (i4 + 1)).toNat)), vi 1, vr 420, vr 0] [] V D (yback d 381 1833 [vr 1, vr 70, vr 405, vr 420, vi i4, v5, v6] [] Q))))) ∧ ((xand (V 1 i4.toNat) 63) = 24 → ((20 ≤ (yK D.2.2.1 1).1 ∧ (yK D.2.2.1 1).1 ≤ 21) ∧ ((0 : Int) ≤ wr (i4 + 1) ∧ wr (i4 + 1) < ((yK D.2.2.1 1).2 : Int)) ∧ RY d 51 0 [vr 70, vi (V 1 ((wr (i4 + 1)).toNat)), vr 420, vr 0] [] V D (yback d 381 1903 [vr 1, vr 70, vr 405, vr 420, vi i4, v5, v6] [] Q))) ∧ ((xand (V 1 i4.toNat) 63) = 25 → RY d 53 0 [vr 70, vr 420, vr 0] [] V D (yback d 381 1953 [vr 1, vr 70, vr 405, vr 420, vi i4, v5, v6] [] Q)) ∧ ((xand (V 1 i4.toNat) 63) = 26 → ((20 ≤ (yK D.2.2.1 1).1 ∧ (yK D.2.2.1 1).1 ≤ 21) ∧ ((0 : Int) ≤ wr (i4 + 1) ∧ wr (i4 + 1) < ((yK D.2.2.1 1).2 : Int)) ∧ (20 ≤ (yK D.2.2.1 1).1 ∧ (yK D.2.2.1 1).1 ≤ 21) ∧ ((0 : Int) ≤ wr (i4 + 2) ∧ wr (i4 + 2) < ((yK D.2.2.1 1).2 : Int)) ∧ RY d 55 0 [vr 70, vi (V 1 ((wr (i4 + 1)).toNat)), vi (V 1 ((wr (i4 + 2)).toNat)), vr 420, vr 0] [] V D (yback d 381 2009 [vr 1, vr 70, vr 405, vr 420, vi i4, v5, v6] [] Q))) ∧ ((xand (V 1 i4.toNat) 63) = 27 → RY d 57 0 [vr 70] [] V D (yback d 381 2064 [vr 1, vr 70, vr 405, vr 420, vi i4, v5, v6] [] Q)) ∧ ((xand (V 1 i4.toNat) 63) = 28 → ((20 ≤ (yK D.2.2.1 1).1 ∧ (yK D.2.2.1 1).1 ≤ 21) ∧ ((0 : Int) ≤ wr (i4 + 1) ∧ wr (i4 + 1) < ((yK D.2.2.1 1).2 : Int)) ∧ (((V 1 ((wr (i4 + 1)).toNat)) = 0 → RY d 59 0 [vr 70, vi 0] [] V D (yback d 381 2091 [vr 1, vr 70, vr 405, vr 420, vi i4, v5, v6] [] Q)) ∧ ((V 1 ((wr (i4 + 1)).toNat)) ≠ 0 → RY d 59 0 [vr 70, vi 1] [] V D (yback d 381 2091 [vr 1, vr 70, vr 405, vr 420, vi i4, v5, v6] [] Q))))) ∧ ((xand (V 1 i4.toNat) 63) = 29 → ((20 ≤ (yK D.2.2.1 1).1 ∧ (yK D.2.2.1 1).1 ≤ 21) ∧ ((0 : Int) ≤ wr (i4 + 1) ∧ wr (i4 + 1) < ((yK D.2.2.1 1).2 : Int)) ∧ (20 ≤ (yK D.2.2.1 1).1 ∧ (yK D.2.2.1 1).1 ≤ 21) ∧ ((0 : Int) ≤ wr (i4 + 2) ∧ wr (i4 + 2) < ((yK D.2.2.1 1).2 : Int)) ∧ (20 ≤ (yK D.2.2.1 1).1 ∧ (yK D.2.2.1 1).1 ≤ 21) ∧ ((0 : Int) ≤ wr (i4 + 3) ∧ wr (i4 + 3) < ((yK D.2.2.1 1).2 : Int)) ∧ (((V 1 ((wr (i4 + 3)).toNat)) = 0 → RY d 61 0 [vr 70, vi (V 1 ((wr (i4 + 1)).toNat)), vi (V 1 ((wr (i4 + 2)).toNat)), vi 0, vr 420, vr 0] [] V D (yback d 381 2145 [vr 1, vr 70, vr 405, vr 420, vi i4, v5, v6] [] Q)) ∧ ((V 1 ((wr (i4 + 3)).toNat)) ≠ 0 → RY d 61 0 [vr 70, vi (V 1 ((wr (i4 + 1)).toNat)), vi (V 1 ((wr (i4 + 2)).toNat)), vi 1, vr 420, vr 0] [] V D (yback d 381 2145 [vr 1, vr 70, vr 405, vr 420, vi i4, v5, v6] [] Q))))) ∧ ((xand (V 1 i4.toNat) 63) = 30 → ((20 ≤ (yK D.2.2.1 1).1 ∧ (yK D.2.2.1 1).1 ≤ 21) ∧ ((0 : Int) ≤ wr (i4 + 1) ∧ wr (i4 + 1) < ((yK D.2.2.1 1).2 : Int)) ∧ (20 ≤ (yK D.2.2.1 1).1 ∧ (yK D.2.2.1 1).1 ≤ 21) ∧ ((0 : Int) ≤ wr (i4 + 2) ∧ wr (i4 + 2) < ((yK D.2.2.1 1).2 : Int)) ∧ RY d 63 0 [vr 70, vi (V 1 ((wr (i4 + 1)).toNat)), vi (V 1 ((wr (i4 + 2)).toNat)), vr 420, vr 0] [] V D (yback d 381 2227 [vr 1, vr 70, vr 405, vr 420, vi i4, v5, v6] [] Q))) ∧ ((xand (V 1 i4.toNat) 63) = 31 → ((20 ≤ (yK D.2.2.1 1).1 ∧ (yK D.2.2.1 1).1 ≤ 21) ∧ ((0 : Int) ≤ wr (i4 + 1) ∧ wr (i4 + 1) < ((yK D.2.2.1 1).2 : Int)) ∧ RY d 65 0 [vr 70, vi (V 1 ((wr (i4 + 1)).toNat)), vr 420, vr 0] [] V D (yback d 381 2289 [vr 1, vr 70, vr 405, vr 420, vi i4, v5, v6] [] Q))) ∧ ((xand (V 1 i4.toNat) 63) = 32 → RY d 67 0 [vr 70, vr 0, vr 0, vr 0, vr 0] [] V D (yback d 381 2338 [vr 1, vr 70, vr 405, vr 420, vi i4, v5, v6] [] Q)) ∧ ((xand (V 1 i4.toNat) 63) = 33 → ((20 ≤ (yK D.2.2.1 1).1 ∧ (yK D.2.2.1 1).1 ≤ 21) ∧ ((0 : Int) ≤ wr (i4 + 1) ∧ wr (i4 + 1) < ((yK D.2.2.1 1).2 : Int)) ∧ RY d 69 0 [vr 70, vi (V 1 ((wr (i4 + 1)).toNat)), vr 420, vr 0] [] V D (yback d 381 2358 [vr 1, vr 70, vr 405, vr 420, vi i4, v5, v6] [] Q))) ∧ ((xand (V 1 i4.toNat) 63) = 34 → RY d 71 0 [vr 70, vr 0, vr 0] [] V D (yback d 381 2407 [vr 1, vr 70, vr 405, vr 420, vi i4, v5, v6] [] Q)) ∧ ((xand (V 1 i4.toNat) 63) = 35 → ((20 ≤ (yK D.2.2.1 1).1 ∧ (yK D.2.2.1 1).1 ≤ 21) ∧ ((0 : Int) ≤ wr (i4 + 1) ∧ wr (i4 + 1) < ((yK D.2.2.1 1).2 : Int)) ∧ (20 ≤ (yK D.2.2.1 1).1 ∧ (yK D.2.2.1 1).1 ≤ 21) ∧ ((0 : Int) ≤ wr (i4 + 2) ∧ wr (i4 + 2) < ((yK D.2.2.1 1).2 : Int)) ∧ RY d 73 0 [vr 70, vi (V 1 ((wr (i4 + 1)).toNat)), vi (V 1 ((wr (i4 + 2)).toNat)), vr 420, vr 0] [] V D (yback d 381 2433 [vr 1, vr 70, vr 405, vr 420, vi i4, v5, v6] [] Q))) ∧ ((xand (V 1 i4.toNat) 63) = 36 → ((20 ≤ (yK D.2.2.1 1).1 ∧ (yK D.2.2.1 1).1 ≤ 21) ∧ ((0 : Int) ≤ wr (i4 + 1) ∧ wr (i4 + 1) < ((yK D.2.2.1 1).2 : Int)) ∧ (20 ≤ (yK D.2.2.1 1).1 ∧ (yK D.2.2.1 1).1 ≤ 21) ∧ ((0 : Int) ≤ wr (i4 + 2) ∧ wr (i4 + 2) < ((yK D.2.2.1 1).2 : Int)) ∧ (20 ≤ (yK D.2.2.1 1).1 ∧ (yK D.2.2.1 1).1 ≤ 21) ∧ ((0 : Int) ≤ wr (i4 + 3) ∧ wr (i4 + 3) < ((yK D.2.2.1 1).2 : Int)) ∧ RY d 75 0 [vr 70, vi (V 1 ((wr (i4 + 1)).toNat)), vi (V 1 ((wr (i4 + 2)).toNat)), vi (V 1 ((wr (i4 + 3)).toNat)), vr 420, vr 0] [] V D (yback d 381 2507 [vr 1, vr 70, vr 405, vr 420, vi i4, v5, v6] [] Q))) ∧ ((xand (V 1 i4.toNat) 63) = 37 → ((20 ≤ (yK D.2.2.1 1).1 ∧ (yK D.2.2.1 1).1 ≤ 21) ∧ ((0 : Int) ≤ wr (i4 + 1) ∧ wr (i4 + 1) < ((yK D.2.2.1 1).2 : Int)) ∧ (20 ≤ (yK D.2.2.1 1).1 ∧ (yK D.2.2.1 1).1 ≤ 21) ∧ ((0 : Int) ≤ wr (i4 + 2) ∧ wr (i4 + 2) < ((yK D.2.2.1 1).2 : Int)) ∧ RY d 77 0 [vr 70, vi (V 1 ((wr (i4 + 1)).toNat)), vi (V 1 ((wr (i4 + 2)).toNat)), vr 420, vr 0] [] V D (yback d 381 2581 [vr 1, vr 70, vr 405, vr 420, vi i4, v5, v6] [] Q))) ∧ ((xand (V 1 i4.toNat) 63) = 38 → RY d 79 0 [vr 70, vr 0, vr 0] [] V D (yback d 381 2636 [vr 1, vr 70, vr 405, vr 420, vi i4, v5, v6] [] Q)) ∧ ((xand (V 1 i4.toNat) 63) = 39 → RY d 81 0 [vr 70] [] V D (yback d 381 2649 [vr 1, vr 70, vr 405, vr 420, vi i4, v5, v6] [] Q)) ∧ ((xand (V 1 i4.toNat) 63) = 40 → RY d 83 0 [vr 70, vr 0, vr 0] [] V D (yback d 381 2662 [vr 1, vr 70, vr 405, vr 420, vi i4, v5, v6] [] Q)) ∧ ((xand (V 1 i4.toNat) 63) = 41 → RY d 85 0 [vr 70, vr 0, vr 0, vr 0, vr 0] [] V D (yback d 381 2675 [vr 1, vr 70, vr 405, vr 420, vi i4, v5, v6] [] Q)) ∧ ((xand (V 1 i4.toNat) 63) = 42 → RY d 87 0 [vr 70, vr 0, vr 0, vr 0] [] V D (yback d 381 2688 [vr 1, vr 70, vr 405, vr 420, vi i4, v5, v6] [] Q)) ∧ ((xand (V 1 i4.toNat) 63) = 43 → ((20 ≤ (yK D.2.2.1 1).1 ∧ (yK D.2.2.1 1).1 ≤ 21) ∧ ((0 : Int) ≤ wr (i4 + 1) ∧ wr (i4 + 1) < ((yK D.2.2.1 1).2 : Int)) ∧ RY d 89 0 [vr 70, vi (V 1 ((wr (i4 + 1)).toNat)), vr 420, vr 0] [] V D (yback d 381 2708 [vr 1, vr 70, vr 405, vr 420, vi i4, v5, v6] [] Q))) ∧ ((xand (V 1 i4.toNat) 63) = 44 → ((20 ≤ (yK D.2.2.1 1).1 ∧ (yK D.2.2.1 1).1 ≤ 21) ∧ ((0 : Int) ≤ wr (i4 + 1) ∧ wr (i4 + 1) < ((yK D.2.2.1 1).2 : Int)) ∧ (20 ≤ (yK D.2.2.1 1).1 ∧ (yK D.2.2.1 1).1 ≤ 21) ∧ ((0 : Int) ≤ wr (i4 + 2) ∧ wr (i4 + 2) < ((yK D.2.2.1 1).2 : Int)) ∧ RY d 91 0 [vr 70, vi (V 1 ((wr (i4 + 1)).toNat)), vi (V 1 ((wr (i4 + 2)).toNat)), vr 420, vr 0] [] V D (yback d 381 2770 [vr 1, vr 70, vr 405, vr 420, vi i4, v5, v6] [] Q))) ∧ ((xand (V 1 i4.toNat) 63) = 45 → ((20 ≤ (yK D.2.2.1 1).1 ∧ (yK D.2.2.1 1).1 ≤ 21) ∧ ((0 : Int) ≤ wr (i4 + 1) ∧ wr (i4 + 1) < ((yK D.2.2.1 1).2 : Int)) ∧ (20 ≤ (yK D.2.2.1 1).1 ∧ (yK D.2.2.1 1).1 ≤ 21) ∧ ((0 : Int) ≤ wr (i4 + 2) ∧ wr (i4 + 2) < ((yK D.2.2.1 1).2 : Int)) ∧ (((V 1 ((wr (i4 + 2)).toNat)) = 0 → RY d 93 0 [vr 70, vi (V 1 ((wr (i4 + 1)).toNat)), vi 0, vr 420, vr 0] [] V D (yback d 381 2846 [vr 1, vr 70, vr 405, vr 420, vi i4, v5, v6] [] Q)) ∧ ((V 1 ((wr (i4 + 2)).toNat)) ≠ 0 → RY d 93 0 [vr 70, vi (V 1 ((wr (i4 + 1)).toNat)), vi 1, vr 420, vr 0] [] V D (yback d 381 2846 [vr 1, vr 70, vr 405, vr 420, vi i4, v5, v6] [] Q))))) ∧ ((xand (V 1 i4.toNat) 63) = 46 → ((20 ≤ (yK D.2.2.1 1).1 ∧ (yK D.2.2.1 1).1 ≤ 21) ∧ ((0 : Int) ≤ wr (i4 + 1) ∧ wr (i4 + 1) < ((yK D.2.2.1 1).2 : Int)) ∧ (20 ≤ (yK D.2.2.1 1).1 ∧ (yK D.2.2.1 1).1 ≤ 21) ∧ ((0 : Int) ≤ wr (i4 + 2) ∧ wr (i4 + 2) < ((yK D.2.2.1 1).2 : Int)) ∧ (((V 1 ((wr (i4 + 2)).toNat)) = 0 → RY d 95 0 [vr 70, vi (V 1 ((wr (i4 + 1)).toNat)), vi 0, vr 420, vr 0] [] V D (yback d 381 2930 [vr 1, vr 70, vr 405, vr 420, vi i4, v5, v6] [] Q)) ∧ ((V 1 ((wr (i4 + 2)).toNat)) ≠ 0 → RY d 95 0 [vr 70, vi (V 1 ((wr (i4 + 1)).toNat)), vi 1, vr 420, vr 0] [] V D (yback d 381 2930 [vr 1, vr 70, vr 405, vr 420, vi i4, v5, v6] [] Q))))) ∧ ((xand (V 1 i4.toNat) 63) = 47 → ((20 ≤ (yK D.2.2.1 1).1 ∧ (yK D.2.2.1 1).1 ≤ 21) ∧ ((0 : Int) ≤ wr (i4 + 1) ∧ wr (i4 + 1) < ((yK D.2.2.1 1).2 : Int)) ∧ (20 ≤ (yK D.2.2.1 1).1 ∧ (yK D.2.2.1 1).1 ≤ 21) ∧ ((0 : Int) ≤ wr (i4 + 2) ∧ wr (i4 + 2) < ((yK D.2.2.1 1).2 : Int)) ∧ (((V 1 ((wr (i4 + 2)).toNat)) = 0 → RY d 97 0 [vr 70, vi (V 1 ((wr (i4 + 1)).toNat)), vi 0, vr 420, vr 0] [] V D (yback d 381 3014 [vr 1, vr 70, vr 405, vr 420, vi i4, v5, v6] [] Q)) ∧ ((V 1 ((wr (i4 + 2)).toNat)) ≠ 0 → RY d 97 0 [vr 70, vi (V 1 ((wr (i4 + 1)).toNat)), vi 1, vr 420, vr 0] [] V D (yback d 381 3014 [vr 1, vr 70, vr 405, vr 420, vi i4, v5, v6] [] Q))))) ∧ ((xand (V 1 i4.toNat) 63) = 48 → ((20 ≤ (yK D.2.2.1 1).1 ∧ (yK D.2.2.1 1).1 ≤ 21) ∧ ((0 : Int) ≤ wr (i4 + 1) ∧ wr (i4 + 1) < ((yK D.2.2.1 1).2 : Int)) ∧ (20 ≤ (yK D.2.2.1 1).1 ∧ (yK D.2.2.1 1).1 ≤ 21) ∧ ((0 : Int) ≤ wr (i4 + 2) ∧ wr (i4 + 2) < ((yK D.2.2.1 1).2 : Int)) ∧ RY d 99 0 [vr 70, vi (V 1 ((wr (i4 + 1)).toNat)), vi (V 1 ((wr (i4 + 2)).toNat)), vr 420, vr 0] [] V D (yback d 381 3090 [vr 1, vr 70, vr 405, vr 420, vi i4, v5, v6] [] Q))) ∧ ((xand (V 1 i4.toNat) 63) = 49 → ((20 ≤ (yK D.2.2.1 1).1 ∧ (yK D.2.2.1 1).1 ≤ 21) ∧ ((0 : Int) ≤ wr (i4 + 1) ∧ wr (i4 + 1) < ((yK D.2.2.1 1).2 : Int)) ∧ (∀ V2 : xF, V2 = up2 V 81 19 (V 1 ((wr (i4 + 1)).toNat)) → ((20 ≤ (yK D.2.2.1 1).1 ∧ (yK D.2.2.1 1).1 ≤ 21) ∧ ((0 : Int) ≤ wr (i4 + 1) ∧ wr (i4 + 1) < ((yK D.2.2.1 1).2 : Int)) ∧ (∀ V3 : xF, V3 = up2 V2 405 0 0 → ∀ V4 : xF, V4 = up2 V3 406 15 (V2 1 ((wr (i4 + 1)).toNat)) → (((V 81 19) = (V3 406 15) → RY d 381 23 [vr 1, vr 70, vr 405, vr 420, vi (wr (i4 + 6)), v5, v6] [] V4 D Q) ∧ ((V 81 19) ≠ (V3 406 15) → Q (.inl (some (vi 0))) V4 D))))))) ∧ ((xand (V 1 i4.toNat) 63) = 50 → RY d 103 0 [vr 70] [] V D (yback d 381 3170 [vr 1, vr 70, vr 405, vr 420, vi i4, v5, v6] [] Q)) ∧ ((xand (V 1 i4.toNat) 63) = 51 → RY d 105 0 [vr 70] [] V D (yback d 381 3183 [vr 1, vr 70, vr 405, vr 420, vi i4, v5, v6] [] Q)) ∧ ((xand (V 1 i4.toNat) 63) = 52 → RY d 107 0 [vr 70] [] V D (yback d 381 3194 [vr 1, vr 70, vr 405, vr 420, vi i4, v5, v6] [] Q)) ∧ ((xand (V 1 i4.toNat) 63) = 53 → ((20 ≤ (yK D.2.2.1 1).1 ∧ (yK D.2.2.1 1).1 ≤ 21) ∧ ((0 : Int) ≤ wr (i4 + 1) ∧ wr (i4 + 1) < ((yK D.2.2.1 1).2 : Int)) ∧ RY d 109 0 [vr 70, vi (V 1 ((wr (i4 + 1)).toNat))] [] V D (yback d 381 3213 [vr 1, vr 70, vr 405, vr 420, vi i4, v5, v6] [] Q))) ∧ True) ∧ (((xand (V 1 i4.toNat) 63) < 0 ∨ (0 : Int) + 54 ≤ (xand (V 1 i4.toNat) 63)) → RY d 381 23 [vr 1, vr 70, vr 405, vr 420, vi (wr (i4 + 6)), v5, v6] [] V D Q)))))) :
    RY d 381 23 [vr 1, vr 70, vr 405, vr 420, vi i4, v5, v6] [] V D Q := yat (c := xk_381) (hd := [3810023]) (dk := [3810026, 3810036, 3810278, 3810284, 3810290, 3810296, 3810302, 3810351, 3810477, 3810483, 3810545, 3810551, 3810613, 3810619, 3810681, 3810687, 3810756, 3810762, 3810831, 3810837, 3810843, 3810849, 3810855, 3810951, 3811007, 3811063, 3811163, 3811169, 3811175, 3811243, 3811249, 3811255, 3811346, 3811352, 3811414, 3811420, 3811482, 3811488, 3811494, 3811562, 3811568, 3811574, 3811642, 3811648, 3811654, 3811722, 3811728, 3811734, 3811740, 3811814, 3811820, 3811898, 3811998, 3812004, 3812079, 3812120, 3812126, 3812132, 3812216, 3812222, 3812284, 3812353, 3812422, 3812428, 3812490, 3812496, 3812502, 3812570, 3812576, 3812703, 3812759, 3812765, 3812827, 3812833, 3812911, 3812917, 3812995, 3813001, 3813079, 3813085, 3813147, 3813157, 3813209]) (dv := [3810036, 3810278, 3810284, 3810290, 3810296, 3810302, 3810351, 3810477, 3810483, 3810545, 3810551, 3810613, 3810619, 3810681, 3810687, 3810756, 3810762, 3810831, 3810837, 3810843, 3810849, 3810855, 3810951, 3811007, 3811063, 3811163, 3811169, 3811175, 3811243, 3811249, 3811255, 3811346, 3811352, 3811414, 3811420, 3811482, 3811488, 3811494, 3811562, 3811568, 3811574, 3811642, 3811648, 3811654, 3811722, 3811728, 3811734, 3811740, 3811814, 3811820, 3811898, 3811998, 3812004, 3812079, 3812120, 3812126, 3812132, 3812216, 3812222, 3812284, 3812353, 3812422, 3812428, 3812490, 3812496, 3812502, 3812570, 3812576, 3812703, 3812759, 3812765, 3812827, 3812833, 3812911, 3812917, 3812995, 3813001, 3813079, 3813085, 3813147, 3813157, 3813209]) (nb := [3810030, 3810466, 3810856, 3811256, 3811821, 3812080, 3812133, 3812834, 3812918, 3813002, 3813161]) rfl h
set_option maxRecDepth 20000 in
theorem u_381_306 {d : Nat} {i4 i_0 : Int} {v5 v6 : xV} {V : xF} {D : yD} {Q : xRes → xF → yD → Prop}
    (h : (20 ≤ (yK D.2.2.1 1).1 ∧ (yK D.2.2.1 1).1 ≤ 21) ∧ ((0 : Int) ≤ wr (i4 + 1) ∧ wr (i4 + 1) < ((yK D.2.2.1 1).2 : Int)) ∧ (20 ≤ (yK D.2.2.1 1).1 ∧ (yK D.2.2.1 1).1 ≤ 21) ∧ ((0 : Int) ≤ wr (i4 + 2) ∧ wr (i4 + 2) < ((yK D.2.2.1 1).2 : Int)) ∧ (20 ≤ (yK D.2.2.1 1).1 ∧ (yK D.2.2.1 1).1 ≤ 21) ∧ ((0 : Int) ≤ wr (i4 + 3) ∧ wr (i4 + 3) < ((yK D.2.2.1 1).2 : Int)) ∧ (20 ≤ (yK D.2.2.1 1).1 ∧ (yK D.2.2.1 1).1 ≤ 21) ∧ ((0 : Int) ≤ wr (i4 + 4) ∧ wr (i4 + 4) < ((yK D.2.2.1 1).2 : Int)) ∧ (20 ≤ (yK D.2.2.1 1).1 ∧ (yK D.2.2.1 1).1 ≤ 21) ∧ ((0 : Int) ≤ wr (i4 + 5) ∧ wr (i4 + 5) < ((yK D.2.2.1 1).2 : Int)) ∧ RY d 3 0 [vr 405, vi (V 1 ((wr (i4 + 1)).toNat)), vi (V 1 ((wr (i4 + 2)).toNat)), vi (V 1 ((wr (i4 + 3)).toNat)), vi (V 1 ((wr (i4 + 4)).toNat)), vi (V 1 ((wr (i4 + 5)).toNat)), vr 0, vr 0] [] V D (yback d 381 340 [vr 1, vr 70, vr 405, vr 420, vi i4, v5, v6] [vi i_0] Q)) :
    RY d 381 306 [vr 1, vr 70, vr 405, vr 420, vi i4, v5, v6] [vi i_0] V D Q := yat (c := xk_381) (hd := [3810023]) (dk := [3810312, 3810318, 3810324, 3810330, 3810336]) (dv := [3810312, 3810318, 3810324, 3810330, 3810336]) (nb := []) rfl h
set_option maxRecDepth 20000 in
theorem u_381_340 {d : Nat} {i4 i_0 i_1 : Int} {v5 v6 : xV} {V : xF} {D : yD} {Q : xRes → xF → yD → Prop}
    (h : (i_0 = i_1 → RY d 381 23 [vr 1, vr 70, vr 405, vr 420, vi (wr (i4 + 6)), v5, v6] [] V D Q) ∧ (i_0 ≠ i_1 → Q (.inl (some (vi 0))) V D)) :
    RY d 381 340 [vr 1, vr 70, vr 405, vr 420, vi i4, v5, v6] [vi i_1, vi i_0] V D Q := yat (c := xk_381) (hd := [3810023]) (dk := []) (dv := []) (nb := [3810340]) rfl h
set_option maxRecDepth 20000 in
theorem u_381_355 {d : Nat} {i4 i_0 : Int} {v5 v6 : xV} {V : xF} {D : yD} {Q : xRes → xF → yD → Prop}
    (h : (20 ≤ (yK D.2.2.1 1).1 ∧ (yK D.2.2.1 1).1 ≤ 21) ∧ ((0 : Int) ≤ wr (i4 + 1) ∧ wr (i4 + 1) < ((yK D.2.2.1 1).2 : Int)) ∧ (∀ V1 : xF, V1 = up2 V 405 0 0 → (((yr_124 (V 1 ((wr (i4 + 1)).toNat)) 0 (V1 405 8) V1 D) ≠ 0 → ∀ V2 : xF, V2 = up2 V1 405 8 (V 1 ((wr (i4 + 1)).toNat)) → ((i_0 = 1 → RY d 381 23 [vr 1, vr 70, vr 405, vr 420, vi (wr (i4 + 6)), v5, v6] [] V2 D Q) ∧ (i_0 ≠ 1 → Q (.inl (some (vi 0))) V2 D))) ∧ ((yr_124 (V 1 ((wr (i4 + 1)).toNat)) 0 (V1 405 8) V1 D) = 0 → ((i_0 = 0 → RY d 381 23 [vr 1, vr 70, vr 405, vr 420, vi (wr (i4 + 6)), v5, v6] [] V1 D Q) ∧ (i_0 ≠ 0 → Q (.inl (some (vi 0))) V1 D)))))) :
    RY d 381 355 [vr 1, vr 70, vr 405, vr 420, vi i4, v5, v6] [vi i_0] V D Q := yat (c := xk_381) (hd := [3810023]) (dk := [3810361]) (dv := [3810361]) (nb := [50014, 3810365]) rfl h
set_option maxRecDepth 20000 in
theorem u_381_375 {d : Nat} {i4 i_0 : Int} {v5 v6 : xV} {V : xF} {D : yD} {Q : xRes → xF → yD → Prop}
    (h : RY d 7 0 [vr 405, vr 0] [] V D (yback d 381 381 [vr 1, vr 70, vr 405, vr 420, vi i4, vi i_0, v6] [] Q)) :
    RY d 381 375 [vr 1, vr 70, vr 405, vr 420, vi i4, v5, v6] [vi i_0] V D Q := yat (c := xk_381) (hd := [3810023]) (dk := []) (dv := []) (nb := []) rfl h
set_option maxRecDepth 20000 in
theorem u_381_381 {d : Nat} {i4 i5 i_0 : Int} {v6 : xV} {V : xF} {D : yD} {Q : xRes → xF → yD → Prop}
    (h : ((yr_8 V D) = i5 → ((i5 ≠ 0 → RY d 381 23 [vr 1, vr 70, vr 405, vr 420, vi (wr (i4 + 6)), vi i5, vi i_0] [] V D Q) ∧ (i5 = 0 → (((xcmp (D.1 420 0) i_0) = 0 → RY d 381 23 [vr 1, vr 70, vr 405, vr 420, vi (wr (i4 + 6)), vi i5, vi i_0] [] V D Q) ∧ ((xcmp (D.1 420 0) i_0) ≠ 0 → Q (.inl (some (vi 0))) V D))))) ∧ ((yr_8 V D) ≠ i5 → Q (.inl (some (vi 0))) V D)) :
    RY d 381 381 [vr 1, vr 70, vr 405, vr 420, vi i4, vi i5, v6] [vi i_0] V D Q := yat (c := xk_381) (hd := [3810023]) (dk := []) (dv := []) (nb := [3810389, 3810396, 3810406]) rfl h
set_option maxRecDepth 20000 in
theorem u_381_419 {d : Nat} {i4 i_0 : Int} {v5 v6 : xV} {V : xF} {D : yD} {Q : xRes → xF → yD → Prop}
    (h : RY d 10 0 [vr 405, vr 0, vr 0] [] V D (yback d 381 425 [vr 1, vr 70, vr 405, vr 420, vi i4, vi i_0, v6] [] Q)) :
    RY d 381 419 [vr 1, vr 70, vr 405, vr 420, vi i4, v5, v6] [vi i_0] V D Q := yat (c := xk_381) (hd := [3810023]) (dk := []) (dv := []) (nb := []) rfl h
set_option maxRecDepth 20000 in
theorem u_381_425 {d : Nat} {i4 i5 i_0 : Int} {v6 : xV} {V : xF} {D : yD} {Q : xRes → xF → yD → Prop}
    (h : ((yr_8 V D) = i5 → ((i5 ≠ 0 → RY d 381 23 [vr 1, vr 70, vr 405, vr 420, vi (wr (i4 + 6)), vi i5, vi i_0] [] V D Q) ∧ (i5 = 0 → (((xcmp (D.1 420 0) i_0) = 0 → RY d 381 23 [vr 1, vr 70, vr 405, vr 420, vi (wr (i4 + 6)), vi i5, vi i_0] [] V D Q) ∧ ((xcmp (D.1 420 0) i_0) ≠ 0 → Q (.inl (some (vi 0))) V D))))) ∧ ((yr_8 V D) ≠ i5 → Q (.inl (some (vi 0))) V D)) :
    RY d 381 425 [vr 1, vr 70, vr 405, vr 420, vi i4, vi i5, v6] [vi i_0] V D Q := yat (c := xk_381) (hd := [3810023]) (dk := []) (dv := []) (nb := [3810433, 3810440, 3810450]) rfl h
set_option maxRecDepth 20000 in
theorem u_381_488 {d : Nat} {i4 i_0 : Int} {v5 v6 : xV} {V : xF} {D : yD} {Q : xRes → xF → yD → Prop}
    (h : (20 ≤ (yK D.2.2.1 1).1 ∧ (yK D.2.2.1 1).1 ≤ 21) ∧ ((0 : Int) ≤ wr (i4 + 1) ∧ wr (i4 + 1) < ((yK D.2.2.1 1).2 : Int)) ∧ (20 ≤ (yK D.2.2.1 1).1 ∧ (yK D.2.2.1 1).1 ≤ 21) ∧ ((0 : Int) ≤ wr (i4 + 2) ∧ wr (i4 + 2) < ((yK D.2.2.1 1).2 : Int)) ∧ RY d 14 0 [vr 405, vi (V 1 ((wr (i4 + 1)).toNat)), vi (V 1 ((wr (i4 + 2)).toNat))] [] V D (yback d 381 506 [vr 1, vr 70, vr 405, vr 420, vi i4, vi i_0, v6] [] Q)) :
    RY d 381 488 [vr 1, vr 70, vr 405, vr 420, vi i4, v5, v6] [vi i_0] V D Q := yat (c := xk_381) (hd := [3810023]) (dk := [3810496, 3810502]) (dv := [3810496, 3810502]) (nb := []) rfl h
set_option maxRecDepth 20000 in
theorem u_381_506 {d : Nat} {i4 i5 i_0 : Int} {v6 : xV} {V : xF} {D : yD} {Q : xRes → xF → yD → Prop}
    (h : ((yr_8 V D) = i5 → ((i5 ≠ 0 → RY d 381 23 [vr 1, vr 70, vr 405, vr 420, vi (wr (i4 + 6)), vi i5, vi i_0] [] V D Q) ∧ (i5 = 0 → (((xcmp (D.1 420 0) i_0) = 0 → RY d 381 23 [vr 1, vr 70, vr 405, vr 420, vi (wr (i4 + 6)), vi i5, vi i_0] [] V D Q) ∧ ((xcmp (D.1 420 0) i_0) ≠ 0 → Q (.inl (some (vi 0))) V D))))) ∧ ((yr_8 V D) ≠ i5 → Q (.inl (some (vi 0))) V D)) :
    RY d 381 506 [vr 1, vr 70, vr 405, vr 420, vi i4, vi i5, v6] [vi i_0] V D Q := yat (c := xk_381) (hd := [3810023]) (dk := []) (dv := []) (nb := [3810514, 3810521, 3810531]) rfl h
set_option maxRecDepth 20000 in
theorem u_381_556 {d : Nat} {i4 i_0 : Int} {v5 v6 : xV} {V : xF} {D : yD} {Q : xRes → xF → yD → Prop}
    (h : (20 ≤ (yK D.2.2.1 1).1 ∧ (yK D.2.2.1 1).1 ≤ 21) ∧ ((0 : Int) ≤ wr (i4 + 1) ∧ wr (i4 + 1) < ((yK D.2.2.1 1).2 : Int)) ∧ (20 ≤ (yK D.2.2.1 1).1 ∧ (yK D.2.2.1 1).1 ≤ 21) ∧ ((0 : Int) ≤ wr (i4 + 2) ∧ wr (i4 + 2) < ((yK D.2.2.1 1).2 : Int)) ∧ RY d 16 0 [vr 405, vi (V 1 ((wr (i4 + 1)).toNat)), vi (V 1 ((wr (i4 + 2)).toNat))] [] V D (yback d 381 574 [vr 1, vr 70, vr 405, vr 420, vi i4, vi i_0, v6] [] Q)) :
    RY d 381 556 [vr 1, vr 70, vr 405, vr 420, vi i4, v5, v6] [vi i_0] V D Q := yat (c := xk_381) (hd := [3810023]) (dk := [3810564, 3810570]) (dv := [3810564, 3810570]) (nb := []) rfl h
set_option maxRecDepth 20000 in
theorem u_381_574 {d : Nat} {i4 i5 i_0 : Int} {v6 : xV} {V : xF} {D : yD} {Q : xRes → xF → yD → Prop}
    (h : ((yr_8 V D) = i5 → ((i5 ≠ 0 → RY d 381 23 [vr 1, vr 70, vr 405, vr 420, vi (wr (i4 + 6)), vi i5, vi i_0] [] V D Q) ∧ (i5 = 0 → (((xcmp (D.1 420 0) i_0) = 0 → RY d 381 23 [vr 1, vr 70, vr 405, vr 420, vi (wr (i4 + 6)), vi i5, vi i_0] [] V D Q) ∧ ((xcmp (D.1 420 0) i_0) ≠ 0 → Q (.inl (some (vi 0))) V D))))) ∧ ((yr_8 V D) ≠ i5 → Q (.inl (some (vi 0))) V D)) :
    RY d 381 574 [vr 1, vr 70, vr 405, vr 420, vi i4, vi i5, v6] [vi i_0] V D Q := yat (c := xk_381) (hd := [3810023]) (dk := []) (dv := []) (nb := [3810582, 3810589, 3810599]) rfl h
set_option maxRecDepth 20000 in
theorem u_381_624 {d : Nat} {i4 i_0 : Int} {v5 v6 : xV} {V : xF} {D : yD} {Q : xRes → xF → yD → Prop}
    (h : (20 ≤ (yK D.2.2.1 1).1 ∧ (yK D.2.2.1 1).1 ≤ 21) ∧ ((0 : Int) ≤ wr (i4 + 1) ∧ wr (i4 + 1) < ((yK D.2.2.1 1).2 : Int)) ∧ (20 ≤ (yK D.2.2.1 1).1 ∧ (yK D.2.2.1 1).1 ≤ 21) ∧ ((0 : Int) ≤ wr (i4 + 2) ∧ wr (i4 + 2) < ((yK D.2.2.1 1).2 : Int)) ∧ RY d 18 0 [vr 405, vi (V 1 ((wr (i4 + 1)).toNat)), vi (V 1 ((wr (i4 + 2)).toNat))] [] V D (yback d 381 642 [vr 1, vr 70, vr 405, vr 420, vi i4, vi i_0, v6] [] Q)) :
    RY d 381 624 [vr 1, vr 70, vr 405, vr 420, vi i4, v5, v6] [vi i_0] V D Q := yat (c := xk_381) (hd := [3810023]) (dk := [3810632, 3810638]) (dv := [3810632, 3810638]) (nb := []) rfl h
set_option maxRecDepth 20000 in
theorem u_381_642 {d : Nat} {i4 i5 i_0 : Int} {v6 : xV} {V : xF} {D : yD} {Q : xRes → xF → yD → Prop}
    (h : ((yr_8 V D) = i5 → ((i5 ≠ 0 → RY d 381 23 [vr 1, vr 70, vr 405, vr 420, vi (wr (i4 + 6)), vi i5, vi i_0] [] V D Q) ∧ (i5 = 0 → (((xcmp (D.1 420 0) i_0) = 0 → RY d 381 23 [vr 1, vr 70, vr 405, vr 420, vi (wr (i4 + 6)), vi i5, vi i_0] [] V D Q) ∧ ((xcmp (D.1 420 0) i_0) ≠ 0 → Q (.inl (some (vi 0))) V D))))) ∧ ((yr_8 V D) ≠ i5 → Q (.inl (some (vi 0))) V D)) :
    RY d 381 642 [vr 1, vr 70, vr 405, vr 420, vi i4, vi i5, v6] [vi i_0] V D Q := yat (c := xk_381) (hd := [3810023]) (dk := []) (dv := []) (nb := [3810650, 3810657, 3810667]) rfl h
set_option maxRecDepth 20000 in
theorem u_381_692 {d : Nat} {i4 i_0 : Int} {v5 v6 : xV} {V : xF} {D : yD} {Q : xRes → xF → yD → Prop}
    (h : (20 ≤ (yK D.2.2.1 1).1 ∧ (yK D.2.2.1 1).1 ≤ 21) ∧ ((0 : Int) ≤ wr (i4 + 1) ∧ wr (i4 + 1) < ((yK D.2.2.1 1).2 : Int)) ∧ (20 ≤ (yK D.2.2.1 1).1 ∧ (yK D.2.2.1 1).1 ≤ 21) ∧ ((0 : Int) ≤ wr (i4 + 2) ∧ wr (i4 + 2) < ((yK D.2.2.1 1).2 : Int)) ∧ RY d 20 0 [vr 405, vi (V 1 ((wr (i4 + 1)).toNat)), vi (V 1 ((wr (i4 + 2)).toNat))] [] V D (yback d 381 710 [vr 1, vr 70, vr 405, vr 420, vi i4, vi i_0, v6] [] Q)) :
    RY d 381 692 [vr 1, vr 70, vr 405, vr 420, vi i4, v5, v6] [vi i_0] V D Q := yat (c := xk_381) (hd := [3810023]) (dk := [3810700, 3810706]) (dv := [3810700, 3810706]) (nb := []) rfl h
set_option maxRecDepth 20000 in
theorem u_381_710 {d : Nat} {i4 i5 i_0 : Int} {v6 : xV} {V : xF} {D : yD} {Q : xRes → xF → yD → Prop}
    (h : ((yr_8 V D) = i5 → ((i5 ≠ 0 → RY d 381 23 [vr 1, vr 70, vr 405, vr 420, vi (wr (i4 + 6)), vi i5, vi i_0] [] V D Q) ∧ (i5 = 0 → ((i_0 = 0 → (((xcmp (D.1 420 0) 0) = 0 → RY d 381 23 [vr 1, vr 70, vr 405, vr 420, vi (wr (i4 + 6)), vi i5, vi i_0] [] V D Q) ∧ ((xcmp (D.1 420 0) 0) ≠ 0 → Q (.inl (some (vi 0))) V D))) ∧ (i_0 ≠ 0 → (((xcmp (D.1 420 0) 1) = 0 → RY d 381 23 [vr 1, vr 70, vr 405, vr 420, vi (wr (i4 + 6)), vi i5, vi i_0] [] V D Q) ∧ ((xcmp (D.1 420 0) 1) ≠ 0 → Q (.inl (some (vi 0))) V D))))))) ∧ ((yr_8 V D) ≠ i5 → Q (.inl (some (vi 0))) V D)) :
    RY d 381 710 [vr 1, vr 70, vr 405, vr 420, vi i4, vi i5, v6] [vi i_0] V D Q := yat (c := xk_381) (hd := [3810023]) (dk := []) (dv := []) (nb := [3810718, 3810725, 3810733, 3810742]) rfl h
set_option maxRecDepth 20000 in
theorem u_381_767 {d : Nat} {i4 i_0 : Int} {v5 v6 : xV} {V : xF} {D : yD} {Q : xRes → xF → yD → Prop}
    (h : (20 ≤ (yK D.2.2.1 1).1 ∧ (yK D.2.2.1 1).1 ≤ 21) ∧ ((0 : Int) ≤ wr (i4 + 1) ∧ wr (i4 + 1) < ((yK D.2.2.1 1).2 : Int)) ∧ (20 ≤ (yK D.2.2.1 1).1 ∧ (yK D.2.2.1 1).1 ≤ 21) ∧ ((0 : Int) ≤ wr (i4 + 2) ∧ wr (i4 + 2) < ((yK D.2.2.1 1).2 : Int)) ∧ RY d 22 0 [vr 405, vi (V 1 ((wr (i4 + 1)).toNat)), vi (V 1 ((wr (i4 + 2)).toNat))] [] V D (yback d 381 785 [vr 1, vr 70, vr 405, vr 420, vi i4, vi i_0, v6] [] Q)) :
    RY d 381 767 [vr 1, vr 70, vr 405, vr 420, vi i4, v5, v6] [vi i_0] V D Q := yat (c := xk_381) (hd := [3810023]) (dk := [3810775, 3810781]) (dv := [3810775, 3810781]) (nb := []) rfl h
set_option maxRecDepth 20000 in
theorem u_381_785 {d : Nat} {i4 i5 i_0 : Int} {v6 : xV} {V : xF} {D : yD} {Q : xRes → xF → yD → Prop}
    (h : ((yr_8 V D) = i5 → ((i5 ≠ 0 → RY d 381 23 [vr 1, vr 70, vr 405, vr 420, vi (wr (i4 + 6)), vi i5, vi i_0] [] V D Q) ∧ (i5 = 0 → ((i_0 = 0 → (((xcmp (D.1 420 0) 0) = 0 → RY d 381 23 [vr 1, vr 70, vr 405, vr 420, vi (wr (i4 + 6)), vi i5, vi i_0] [] V D Q) ∧ ((xcmp (D.1 420 0) 0) ≠ 0 → Q (.inl (some (vi 0))) V D))) ∧ (i_0 ≠ 0 → (((xcmp (D.1 420 0) 1) = 0 → RY d 381 23 [vr 1, vr 70, vr 405, vr 420, vi (wr (i4 + 6)), vi i5, vi i_0] [] V D Q) ∧ ((xcmp (D.1 420 0) 1) ≠ 0 → Q (.inl (some (vi 0))) V D))))))) ∧ ((yr_8 V D) ≠ i5 → Q (.inl (some (vi 0))) V D)) :
    RY d 381 785 [vr 1, vr 70, vr 405, vr 420, vi i4, vi i5, v6] [vi i_0] V D Q := yat (c := xk_381) (hd := [3810023]) (dk := []) (dv := []) (nb := [3810793, 3810800, 3810808, 3810817]) rfl h
set_option maxRecDepth 20000 in
theorem u_381_868 {d : Nat} {i4 i_0 : Int} {v5 v6 : xV} {V : xF} {D : yD} {Q : xRes → xF → yD → Prop}
    (h : (20 ≤ (yK D.2.2.1 1).1 ∧ (yK D.2.2.1 1).1 ≤ 21) ∧ ((0 : Int) ≤ wr (i4 + 1) ∧ wr (i4 + 1) < ((yK D.2.2.1 1).2 : Int)) ∧ (20 ≤ (yK D.2.2.1 1).1 ∧ (yK D.2.2.1 1).1 ≤ 21) ∧ ((0 : Int) ≤ wr (i4 + 2) ∧ wr (i4 + 2) < ((yK D.2.2.1 1).2 : Int)) ∧ (20 ≤ (yK D.2.2.1 1).1 ∧ (yK D.2.2.1 1).1 ≤ 21) ∧ ((0 : Int) ≤ wr (i4 + 3) ∧ wr (i4 + 3) < ((yK D.2.2.1 1).2 : Int)) ∧ (20 ≤ (yK D.2.2.1 1).1 ∧ (yK D.2.2.1 1).1 ≤ 21) ∧ ((0 : Int) ≤ wr (i4 + 4) ∧ wr (i4 + 4) < ((yK D.2.2.1 1).2 : Int)) ∧ (20 ≤ (yK D.2.2.1 1).1 ∧ (yK D.2.2.1 1).1 ≤ 21) ∧ ((0 : Int) ≤ wr (i4 + 5) ∧ wr (i4 + 5) < ((yK D.2.2.1 1).2 : Int)) ∧ (((V 1 ((wr (i4 + 5)).toNat)) = 0 → RY d 24 0 [vr 405, vi (V 1 ((wr (i4 + 1)).toNat)), vi (V 1 ((wr (i4 + 2)).toNat)), vi (V 1 ((wr (i4 + 3)).toNat)), vi (V 1 ((wr (i4 + 4)).toNat)), vi 0, vr 0, vr 0, vr 0] [] V D (yback d 381 912 [vr 1, vr 70, vr 405, vr 420, vi i4, vi i_0, v6] [] Q)) ∧ ((V 1 ((wr (i4 + 5)).toNat)) ≠ 0 → RY d 24 0 [vr 405, vi (V 1 ((wr (i4 + 1)).toNat)), vi (V 1 ((wr (i4 + 2)).toNat)), vi (V 1 ((wr (i4 + 3)).toNat)), vi (V 1 ((wr (i4 + 4)).toNat)), vi 1, vr 0, vr 0, vr 0] [] V D (yback d 381 912 [vr 1, vr 70, vr 405, vr 420, vi i4, vi i_0, v6] [] Q)))) :
    RY d 381 868 [vr 1, vr 70, vr 405, vr 420, vi i4, v5, v6] [vi i_0] V D Q := yat (c := xk_381) (hd := [3810023]) (dk := [3810876, 3810882, 3810888, 3810894, 3810900]) (dv := [3810876, 3810882, 3810888, 3810894, 3810900]) (nb := [3810901]) rfl h
set_option maxRecDepth 20000 in
theorem u_381_912 {d : Nat} {i4 i5 i_0 : Int} {v6 : xV} {V : xF} {D : yD} {Q : xRes → xF → yD → Prop}
    (h : ((yr_8 V D) = i5 → ((i5 ≠ 0 → RY d 381 23 [vr 1, vr 70, vr 405, vr 420, vi (wr (i4 + 6)), vi i5, vi i_0] [] V D Q) ∧ (i5 = 0 → (((xcmp (D.1 420 0) i_0) = 0 → RY d 381 23 [vr 1, vr 70, vr 405, vr 420, vi (wr (i4 + 6)), vi i5, vi i_0] [] V D Q) ∧ ((xcmp (D.1 420 0) i_0) ≠ 0 → Q (.inl (some (vi 0))) V D))))) ∧ ((yr_8 V D) ≠ i5 → Q (.inl (some (vi 0))) V D)) :
    RY d 381 912 [vr 1, vr 70, vr 405, vr 420, vi i4, vi i5, v6] [vi i_0] V D Q := yat (c := xk_381) (hd := [3810023]) (dk := []) (dv := []) (nb := [3810920, 3810927, 3810937]) rfl h
set_option maxRecDepth 20000 in
theorem u_381_956 {d : Nat} {i4 i_0 : Int} {v5 v6 : xV} {V : xF} {D : yD} {Q : xRes → xF → yD → Prop}
    (h : (20 ≤ (yK D.2.2.1 1).1 ∧ (yK D.2.2.1 1).1 ≤ 21) ∧ ((0 : Int) ≤ wr (i4 + 1) ∧ wr (i4 + 1) < ((yK D.2.2.1 1).2 : Int)) ∧ RY d 26 0 [vr 405, vi (V 1 ((wr (i4 + 1)).toNat))] [] V D (yback d 381 968 [vr 1, vr 70, vr 405, vr 420, vi i4, vi i_0, v6] [] Q)) :
    RY d 381 956 [vr 1, vr 70, vr 405, vr 420, vi i4, v5, v6] [vi i_0] V D Q := yat (c := xk_381) (hd := [3810023]) (dk := [3810964]) (dv := [3810964]) (nb := []) rfl h
set_option maxRecDepth 20000 in
theorem u_381_968 {d : Nat} {i4 i5 i_0 : Int} {v6 : xV} {V : xF} {D : yD} {Q : xRes → xF → yD → Prop}
    (h : ((yr_8 V D) = i5 → ((i5 ≠ 0 → RY d 381 23 [vr 1, vr 70, vr 405, vr 420, vi (wr (i4 + 6)), vi i5, vi i_0] [] V D Q) ∧ (i5 = 0 → (((xcmp (D.1 420 0) i_0) = 0 → RY d 381 23 [vr 1, vr 70, vr 405, vr 420, vi (wr (i4 + 6)), vi i5, vi i_0] [] V D Q) ∧ ((xcmp (D.1 420 0) i_0) ≠ 0 → Q (.inl (some (vi 0))) V D))))) ∧ ((yr_8 V D) ≠ i5 → Q (.inl (some (vi 0))) V D)) :
    RY d 381 968 [vr 1, vr 70, vr 405, vr 420, vi i4, vi i5, v6] [vi i_0] V D Q := yat (c := xk_381) (hd := [3810023]) (dk := []) (dv := []) (nb := [3810976, 3810983, 3810993]) rfl h
set_option maxRecDepth 20000 in
theorem u_381_1012 {d : Nat} {i4 i_0 : Int} {v5 v6 : xV} {V : xF} {D : yD} {Q : xRes → xF → yD → Prop}
    (h : (20 ≤ (yK D.2.2.1 1).1 ∧ (yK D.2.2.1 1).1 ≤ 21) ∧ ((0 : Int) ≤ wr (i4 + 1) ∧ wr (i4 + 1) < ((yK D.2.2.1 1).2 : Int)) ∧ RY d 28 0 [vr 405, vi (V 1 ((wr (i4 + 1)).toNat)), vr 0] [] V D (yback d 381 1024 [vr 1, vr 70, vr 405, vr 420, vi i4, vi i_0, v6] [] Q)) :
    RY d 381 1012 [vr 1, vr 70, vr 405, vr 420, vi i4, v5, v6] [vi i_0] V D Q := yat (c := xk_381) (hd := [3810023]) (dk := [3811020]) (dv := [3811020]) (nb := []) rfl h
set_option maxRecDepth 20000 in
theorem u_381_1024 {d : Nat} {i4 i5 i_0 : Int} {v6 : xV} {V : xF} {D : yD} {Q : xRes → xF → yD → Prop}
    (h : ((yr_8 V D) = i5 → ((i5 ≠ 0 → RY d 381 23 [vr 1, vr 70, vr 405, vr 420, vi (wr (i4 + 6)), vi i5, vi i_0] [] V D Q) ∧ (i5 = 0 → (((xcmp (D.1 420 0) i_0) = 0 → RY d 381 23 [vr 1, vr 70, vr 405, vr 420, vi (wr (i4 + 6)), vi i5, vi i_0] [] V D Q) ∧ ((xcmp (D.1 420 0) i_0) ≠ 0 → Q (.inl (some (vi 0))) V D))))) ∧ ((yr_8 V D) ≠ i5 → Q (.inl (some (vi 0))) V D)) :
    RY d 381 1024 [vr 1, vr 70, vr 405, vr 420, vi i4, vi i5, v6] [vi i_0] V D Q := yat (c := xk_381) (hd := [3810023]) (dk := []) (dv := []) (nb := [3811032, 3811039, 3811049]) rfl h
set_option maxRecDepth 20000 in
theorem u_381_1068 {d : Nat} {i4 i_0 : Int} {v5 v6 : xV} {V : xF} {D : yD} {Q : xRes → xF → yD → Prop}
    (h : (20 ≤ (yK D.2.2.1 1).1 ∧ (yK D.2.2.1 1).1 ≤ 21) ∧ ((0 : Int) ≤ wr (i4 + 1) ∧ wr (i4 + 1) < ((yK D.2.2.1 1).2 : Int)) ∧ RY d 30 0 [vr 405, vi (V 1 ((wr (i4 + 1)).toNat)), vr 0] [] V D (yback d 381 1080 [vr 1, vr 70, vr 405, vr 420, vi i4, vi i_0, v6] [] Q)) :
    RY d 381 1068 [vr 1, vr 70, vr 405, vr 420, vi i4, v5, v6] [vi i_0] V D Q := yat (c := xk_381) (hd := [3810023]) (dk := [3811076]) (dv := [3811076]) (nb := []) rfl h
set_option maxRecDepth 20000 in
theorem u_381_1080 {d : Nat} {i4 i5 i_0 : Int} {v6 : xV} {V : xF} {D : yD} {Q : xRes → xF → yD → Prop}
    (h : ((yr_8 V D) = i5 → ((i5 ≠ 0 → RY d 381 23 [vr 1, vr 70, vr 405, vr 420, vi (wr (i4 + 6)), vi i5, vi i_0] [] V D Q) ∧ (i5 = 0 → (((xcmp (D.1 420 0) i_0) = 0 → RY d 381 23 [vr 1, vr 70, vr 405, vr 420, vi (wr (i4 + 6)), vi i5, vi i_0] [] V D Q) ∧ ((xcmp (D.1 420 0) i_0) ≠ 0 → Q (.inl (some (vi 0))) V D))))) ∧ ((yr_8 V D) ≠ i5 → Q (.inl (some (vi 0))) V D)) :
    RY d 381 1080 [vr 1, vr 70, vr 405, vr 420, vi i4, vi i5, v6] [vi i_0] V D Q := yat (c := xk_381) (hd := [3810023]) (dk := []) (dv := []) (nb := [3811088, 3811095, 3811105]) rfl h
set_option maxRecDepth 20000 in
theorem u_381_1118 {d : Nat} {i4 i_0 : Int} {v5 v6 : xV} {V : xF} {D : yD} {Q : xRes → xF → yD → Prop}
    (h : RY d 32 0 [vr 405, vr 0, vr 0] [] V D (yback d 381 1124 [vr 1, vr 70, vr 405, vr 420, vi i4, vi i_0, v6] [] Q)) :
    RY d 381 1118 [vr 1, vr 70, vr 405, vr 420, vi i4, v5, v6] [vi i_0] V D Q := yat (c := xk_381) (hd := [3810023]) (dk := []) (dv := []) (nb := []) rfl h
set_option maxRecDepth 20000 in
theorem u_381_1124 {d : Nat} {i4 i5 i_0 : Int} {v6 : xV} {V : xF} {D : yD} {Q : xRes → xF → yD → Prop}
    (h : ((yr_8 V D) = i5 → ((i5 ≠ 0 → RY d 381 23 [vr 1, vr 70, vr 405, vr 420, vi (wr (i4 + 6)), vi i5, vi i_0] [] V D Q) ∧ (i5 = 0 → (((xcmp (D.1 420 0) i_0) = 0 → RY d 381 23 [vr 1, vr 70, vr 405, vr 420, vi (wr (i4 + 6)), vi i5, vi i_0] [] V D Q) ∧ ((xcmp (D.1 420 0) i_0) ≠ 0 → Q (.inl (some (vi 0))) V D))))) ∧ ((yr_8 V D) ≠ i5 → Q (.inl (some (vi 0))) V D)) :
    RY d 381 1124 [vr 1, vr 70, vr 405, vr 420, vi i4, vi i5, v6] [vi i_0] V D Q := yat (c := xk_381) (hd := [3810023]) (dk := []) (dv := []) (nb := [3811132, 3811139, 3811149]) rfl h
set_option maxRecDepth 20000 in
theorem u_381_1180 {d : Nat} {i4 i_0 : Int} {v5 v6 : xV} {V : xF} {D : yD} {Q : xRes → xF → yD → Prop}
    (h : (20 ≤ (yK D.2.2.1 1).1 ∧ (yK D.2.2.1 1).1 ≤ 21) ∧ ((0 : Int) ≤ wr (i4 + 1) ∧ wr (i4 + 1) < ((yK D.2.2.1 1).2 : Int)) ∧ (20 ≤ (yK D.2.2.1 1).1 ∧ (yK D.2.2.1 1).1 ≤ 21) ∧ ((0 : Int) ≤ wr (i4 + 2) ∧ wr (i4 + 2) < ((yK D.2.2.1 1).2 : Int)) ∧ (20 ≤ (yK D.2.2.1 1).1 ∧ (yK D.2.2.1 1).1 ≤ 21) ∧ ((0 : Int) ≤ wr (i4 + 3) ∧ wr (i4 + 3) < ((yK D.2.2.1 1).2 : Int)) ∧ RY d 34 0 [vr 405, vi (V 1 ((wr (i4 + 1)).toNat)), vi (V 1 ((wr (i4 + 2)).toNat)), vi (V 1 ((wr (i4 + 3)).toNat))] [] V D (yback d 381 1204 [vr 1, vr 70, vr 405, vr 420, vi i4, vi i_0, v6] [] Q)) :
    RY d 381 1180 [vr 1, vr 70, vr 405, vr 420, vi i4, v5, v6] [vi i_0] V D Q := yat (c := xk_381) (hd := [3810023]) (dk := [3811188, 3811194, 3811200]) (dv := [3811188, 3811194, 3811200]) (nb := []) rfl h
set_option maxRecDepth 20000 in
theorem u_381_1204 {d : Nat} {i4 i5 i_0 : Int} {v6 : xV} {V : xF} {D : yD} {Q : xRes → xF → yD → Prop}
    (h : ((yr_8 V D) = i5 → ((i5 ≠ 0 → RY d 381 23 [vr 1, vr 70, vr 405, vr 420, vi (wr (i4 + 6)), vi i5, vi i_0] [] V D Q) ∧ (i5 = 0 → (((xcmp (D.1 420 0) i_0) = 0 → RY d 381 23 [vr 1, vr 70, vr 405, vr 420, vi (wr (i4 + 6)), vi i5, vi i_0] [] V D Q) ∧ ((xcmp (D.1 420 0) i_0) ≠ 0 → Q (.inl (some (vi 0))) V D))))) ∧ ((yr_8 V D) ≠ i5 → Q (.inl (some (vi 0))) V D)) :
    RY d 381 1204 [vr 1, vr 70, vr 405, vr 420, vi i4, vi i5, v6] [vi i_0] V D Q := yat (c := xk_381) (hd := [3810023]) (dk := []) (dv := []) (nb := [3811212, 3811219, 3811229]) rfl h
set_option maxRecDepth 20000 in
theorem u_381_1268 {d : Nat} {i4 i_0 : Int} {v5 v6 : xV} {V : xF} {D : yD} {Q : xRes → xF → yD → Prop}
    (h : (20 ≤ (yK D.2.2.1 1).1 ∧ (yK D.2.2.1 1).1 ≤ 21) ∧ ((0 : Int) ≤ wr (i4 + 1) ∧ wr (i4 + 1) < ((yK D.2.2.1 1).2 : Int)) ∧ (20 ≤ (yK D.2.2.1 1).1 ∧ (yK D.2.2.1 1).1 ≤ 21) ∧ ((0 : Int) ≤ wr (i4 + 2) ∧ wr (i4 + 2) < ((yK D.2.2.1 1).2 : Int)) ∧ (20 ≤ (yK D.2.2.1 1).1 ∧ (yK D.2.2.1 1).1 ≤ 21) ∧ ((0 : Int) ≤ wr (i4 + 3) ∧ wr (i4 + 3) < ((yK D.2.2.1 1).2 : Int)) ∧ (((V 1 ((wr (i4 + 3)).toNat)) = 0 → RY d 36 0 [vr 405, vi (V 1 ((wr (i4 + 1)).toNat)), vi (V 1 ((wr (i4 + 2)).toNat)), vi 0, vr 0] [] V D (yback d 381 1300 [vr 1, vr 70, vr 405, vr 420, vi i4, vi i_0, v6] [] Q)) ∧ ((V 1 ((wr (i4 + 3)).toNat)) ≠ 0 → RY d 36 0 [vr 405, vi (V 1 ((wr (i4 + 1)).toNat)), vi (V 1 ((wr (i4 + 2)).toNat)), vi 1, vr 0] [] V D (yback d 381 1300 [vr 1, vr 70, vr 405, vr 420, vi i4, vi i_0, v6] [] Q)))) :
    RY d 381 1268 [vr 1, vr 70, vr 405, vr 420, vi i4, v5, v6] [vi i_0] V D Q := yat (c := xk_381) (hd := [3810023]) (dk := [3811276, 3811282, 3811288]) (dv := [3811276, 3811282, 3811288]) (nb := [3811289]) rfl h
set_option maxRecDepth 20000 in
theorem u_381_1300 {d : Nat} {i4 i5 i_0 : Int} {v6 : xV} {V : xF} {D : yD} {Q : xRes → xF → yD → Prop}
    (h : ((yr_8 V D) = i5 → ((i5 ≠ 0 → RY d 381 23 [vr 1, vr 70, vr 405, vr 420, vi (wr (i4 + 6)), vi i5, vi i_0] [] V D Q) ∧ (i5 = 0 → ((i_0 = 0 → (((xcmp (D.1 420 0) 0) = 0 → RY d 381 23 [vr 1, vr 70, vr 405, vr 420, vi (wr (i4 + 6)), vi i5, vi i_0] [] V D Q) ∧ ((xcmp (D.1 420 0) 0) ≠ 0 → Q (.inl (some (vi 0))) V D))) ∧ (i_0 ≠ 0 → (((xcmp (D.1 420 0) 1) = 0 → RY d 381 23 [vr 1, vr 70, vr 405, vr 420, vi (wr (i4 + 6)), vi i5, vi i_0] [] V D Q) ∧ ((xcmp (D.1 420 0) 1) ≠ 0 → Q (.inl (some (vi 0))) V D))))))) ∧ ((yr_8 V D) ≠ i5 → Q (.inl (some (vi 0))) V D)) :
    RY d 381 1300 [vr 1, vr 70, vr 405, vr 420, vi i4, vi i5, v6] [vi i_0] V D Q := yat (c := xk_381) (hd := [3810023]) (dk := []) (dv := []) (nb := [3811308, 3811315, 3811323, 3811332]) rfl h
set_option maxRecDepth 20000 in
theorem u_381_1357 {d : Nat} {i4 i_0 : Int} {v5 v6 : xV} {V : xF} {D : yD} {Q : xRes → xF → yD → Prop}
    (h : (20 ≤ (yK D.2.2.1 1).1 ∧ (yK D.2.2.1 1).1 ≤ 21) ∧ ((0 : Int) ≤ wr (i4 + 1) ∧ wr (i4 + 1) < ((yK D.2.2.1 1).2 : Int)) ∧ (20 ≤ (yK D.2.2.1 1).1 ∧ (yK D.2.2.1 1).1 ≤ 21) ∧ ((0 : Int) ≤ wr (i4 + 2) ∧ wr (i4 + 2) < ((yK D.2.2.1 1).2 : Int)) ∧ RY d 38 0 [vr 405, vi (V 1 ((wr (i4 + 1)).toNat)), vi (V 1 ((wr (i4 + 2)).toNat))] [] V D (yback d 381 1375 [vr 1, vr 70, vr 405, vr 420, vi i4, vi i_0, v6] [] Q)) :
    RY d 381 1357 [vr 1, vr 70, vr 405, vr 420, vi i4, v5, v6] [vi i_0] V D Q := yat (c := xk_381) (hd := [3810023]) (dk := [3811365, 3811371]) (dv := [3811365, 3811371]) (nb := []) rfl h
set_option maxRecDepth 20000 in
theorem u_381_1375 {d : Nat} {i4 i5 i_0 : Int} {v6 : xV} {V : xF} {D : yD} {Q : xRes → xF → yD → Prop}
    (h : ((yr_8 V D) = i5 → ((i5 ≠ 0 → RY d 381 23 [vr 1, vr 70, vr 405, vr 420, vi (wr (i4 + 6)), vi i5, vi i_0] [] V D Q) ∧ (i5 = 0 → (((xcmp (D.1 420 0) i_0) = 0 → RY d 381 23 [vr 1, vr 70, vr 405, vr 420, vi (wr (i4 + 6)), vi i5, vi i_0] [] V D Q) ∧ ((xcmp (D.1 420 0) i_0) ≠ 0 → Q (.inl (some (vi 0))) V D))))) ∧ ((yr_8 V D) ≠ i5 → Q (.inl (some (vi 0))) V D)) :
    RY d 381 1375 [vr 1, vr 70, vr 405, vr 420, vi i4, vi i5, v6] [vi i_0] V D Q := yat (c := xk_381) (hd := [3810023]) (dk := []) (dv := []) (nb := [3811383, 3811390, 3811400]) rfl h
set_option maxRecDepth 20000 in
theorem u_381_1425 {d : Nat} {i4 i_0 : Int} {v5 v6 : xV} {V : xF} {D : yD} {Q : xRes → xF → yD → Prop}
    (h : (20 ≤ (yK D.2.2.1 1).1 ∧ (yK D.2.2.1 1).1 ≤ 21) ∧ ((0 : Int) ≤ wr (i4 + 1) ∧ wr (i4 + 1) < ((yK D.2.2.1 1).2 : Int)) ∧ (20 ≤ (yK D.2.2.1 1).1 ∧ (yK D.2.2.1 1).1 ≤ 21) ∧ ((0 : Int) ≤ wr (i4 + 2) ∧ wr (i4 + 2) < ((yK D.2.2.1 1).2 : Int)) ∧ RY d 40 0 [vr 405, vi (V 1 ((wr (i4 + 1)).toNat)), vi (V 1 ((wr (i4 + 2)).toNat))] [] V D (yback d 381 1443 [vr 1, vr 70, vr 405, vr 420, vi i4, vi i_0, v6] [] Q)) :
    RY d 381 1425 [vr 1, vr 70, vr 405, vr 420, vi i4, v5, v6] [vi i_0] V D Q := yat (c := xk_381) (hd := [3810023]) (dk := [3811433, 3811439]) (dv := [3811433, 3811439]) (nb := []) rfl h
set_option maxRecDepth 20000 in
theorem u_381_1443 {d : Nat} {i4 i5 i_0 : Int} {v6 : xV} {V : xF} {D : yD} {Q : xRes → xF → yD → Prop}
    (h : ((yr_8 V D) = i5 → ((i5 ≠ 0 → RY d 381 23 [vr 1, vr 70, vr 405, vr 420, vi (wr (i4 + 6)), vi i5, vi i_0] [] V D Q) ∧ (i5 = 0 → (((xcmp (D.1 420 0) i_0) = 0 → RY d 381 23 [vr 1, vr 70, vr 405, vr 420, vi (wr (i4 + 6)), vi i5, vi i_0] [] V D Q) ∧ ((xcmp (D.1 420 0) i_0) ≠ 0 → Q (.inl (some (vi 0))) V D))))) ∧ ((yr_8 V D) ≠ i5 → Q (.inl (some (vi 0))) V D)) :
    RY d 381 1443 [vr 1, vr 70, vr 405, vr 420, vi i4, vi i5, v6] [vi i_0] V D Q := yat (c := xk_381) (hd := [3810023]) (dk := []) (dv := []) (nb := [3811451, 3811458, 3811468]) rfl h
set_option maxRecDepth 20000 in
theorem u_381_1499 {d : Nat} {i4 i_0 : Int} {v5 v6 : xV} {V : xF} {D : yD} {Q : xRes → xF → yD → Prop}
    (h : (20 ≤ (yK D.2.2.1 1).1 ∧ (yK D.2.2.1 1).1 ≤ 21) ∧ ((0 : Int) ≤ wr (i4 + 1) ∧ wr (i4 + 1) < ((yK D.2.2.1 1).2 : Int)) ∧ (20 ≤ (yK D.2.2.1 1).1 ∧ (yK D.2.2.1 1).1 ≤ 21) ∧ ((0 : Int) ≤ wr (i4 + 2) ∧ wr (i4 + 2) < ((yK D.2.2.1 1).2 : Int)) ∧ (20 ≤ (yK D.2.2.1 1).1 ∧ (yK D.2.2.1 1).1 ≤ 21) ∧ ((0 : Int) ≤ wr (i4 + 3) ∧ wr (i4 + 3) < ((yK D.2.2.1 1).2 : Int)) ∧ RY d 42 0 [vr 405, vi (V 1 ((wr (i4 + 1)).toNat)), vi (V 1 ((wr (i4 + 2)).toNat)), vi (V 1 ((wr (i4 + 3)).toNat)), vr 0, vr 0] [] V D (yback d 381 1523 [vr 1, vr 70, vr 405, vr 420, vi i4, vi i_0, v6] [] Q)) :
    RY d 381 1499 [vr 1, vr 70, vr 405, vr 420, vi i4, v5, v6] [vi i_0] V D Q := yat (c := xk_381) (hd := [3810023]) (dk := [3811507, 3811513, 3811519]) (dv := [3811507, 3811513, 3811519]) (nb := []) rfl h
set_option maxRecDepth 20000 in
theorem u_381_1523 {d : Nat} {i4 i5 i_0 : Int} {v6 : xV} {V : xF} {D : yD} {Q : xRes → xF → yD → Prop}
    (h : ((yr_8 V D) = i5 → ((i5 ≠ 0 → RY d 381 23 [vr 1, vr 70, vr 405, vr 420, vi (wr (i4 + 6)), vi i5, vi i_0] [] V D Q) ∧ (i5 = 0 → (((xcmp (D.1 420 0) i_0) = 0 → RY d 381 23 [vr 1, vr 70, vr 405, vr 420, vi (wr (i4 + 6)), vi i5, vi i_0] [] V D Q) ∧ ((xcmp (D.1 420 0) i_0) ≠ 0 → Q (.inl (some (vi 0))) V D))))) ∧ ((yr_8 V D) ≠ i5 → Q (.inl (some (vi 0))) V D)) :
    RY d 381 1523 [vr 1, vr 70, vr 405, vr 420, vi i4, vi i5, v6] [vi i_0] V D Q := yat (c := xk_381) (hd := [3810023]) (dk := []) (dv := []) (nb := [3811531, 3811538, 3811548]) rfl h
set_option maxRecDepth 20000 in
theorem u_381_1579 {d : Nat} {i4 i_0 : Int} {v5 v6 : xV} {V : xF} {D : yD} {Q : xRes → xF → yD → Prop}
    (h : (20 ≤ (yK D.2.2.1 1).1 ∧ (yK D.2.2.1 1).1 ≤ 21) ∧ ((0 : Int) ≤ wr (i4 + 1) ∧ wr (i4 + 1) < ((yK D.2.2.1 1).2 : Int)) ∧ (20 ≤ (yK D.2.2.1 1).1 ∧ (yK D.2.2.1 1).1 ≤ 21) ∧ ((0 : Int) ≤ wr (i4 + 2) ∧ wr (i4 + 2) < ((yK D.2.2.1 1).2 : Int)) ∧ (20 ≤ (yK D.2.2.1 1).1 ∧ (yK D.2.2.1 1).1 ≤ 21) ∧ ((0 : Int) ≤ wr (i4 + 3) ∧ wr (i4 + 3) < ((yK D.2.2.1 1).2 : Int)) ∧ RY d 44 0 [vr 405, vi (V 1 ((wr (i4 + 1)).toNat)), vi (V 1 ((wr (i4 + 2)).toNat)), vi (V 1 ((wr (i4 + 3)).toNat)), vr 0, vr 0] [] V D (yback d 381 1603 [vr 1, vr 70, vr 405, vr 420, vi i4, vi i_0, v6] [] Q)) :
    RY d 381 1579 [vr 1, vr 70, vr 405, vr 420, vi i4, v5, v6] [vi i_0] V D Q := yat (c := xk_381) (hd := [3810023]) (dk := [3811587, 3811593, 3811599]) (dv := [3811587, 3811593, 3811599]) (nb := []) rfl h
set_option maxRecDepth 20000 in
theorem u_381_1603 {d : Nat} {i4 i5 i_0 : Int} {v6 : xV} {V : xF} {D : yD} {Q : xRes → xF → yD → Prop}
    (h : ((yr_8 V D) = i5 → ((i5 ≠ 0 → RY d 381 23 [vr 1, vr 70, vr 405, vr 420, vi (wr (i4 + 6)), vi i5, vi i_0] [] V D Q) ∧ (i5 = 0 → (((xcmp (D.1 420 0) i_0) = 0 → RY d 381 23 [vr 1, vr 70, vr 405, vr 420, vi (wr (i4 + 6)), vi i5, vi i_0] [] V D Q) ∧ ((xcmp (D.1 420 0) i_0) ≠ 0 → Q (.inl (some (vi 0))) V D))))) ∧ ((yr_8 V D) ≠ i5 → Q (.inl (some (vi 0))) V D)) :
    RY d 381 1603 [vr 1, vr 70, vr 405, vr 420, vi i4, vi i5, v6] [vi i_0] V D Q := yat (c := xk_381) (hd := [3810023]) (dk := []) (dv := []) (nb := [3811611, 3811618, 3811628]) rfl h
set_option maxRecDepth 20000 in
theorem u_381_1659 {d : Nat} {i4 i_0 : Int} {v5 v6 : xV} {V : xF} {D : yD} {Q : xRes → xF → yD → Prop}
    (h : (20 ≤ (yK D.2.2.1 1).1 ∧ (yK D.2.2.1 1).1 ≤ 21) ∧ ((0 : Int) ≤ wr (i4 + 1) ∧ wr (i4 + 1) < ((yK D.2.2.1 1).2 : Int)) ∧ (20 ≤ (yK D.2.2.1 1).1 ∧ (yK D.2.2.1 1).1 ≤ 21) ∧ ((0 : Int) ≤ wr (i4 + 2) ∧ wr (i4 + 2) < ((yK D.2.2.1 1).2 : Int)) ∧ (20 ≤ (yK D.2.2.1 1).1 ∧ (yK D.2.2.1 1).1 ≤ 21) ∧ ((0 : Int) ≤ wr (i4 + 3) ∧ wr (i4 + 3) < ((yK D.2.2.1 1).2 : Int)) ∧ RY d 46 0 [vr 405, vi (V 1 ((wr (i4 + 1)).toNat)), vi (V 1 ((wr (i4 + 2)).toNat)), vi (V 1 ((wr (i4 + 3)).toNat)), vr 0] [] V D (yback d 381 1683 [vr 1, vr 70, vr 405, vr 420, vi i4, vi i_0, v6] [] Q)) :
    RY d 381 1659 [vr 1, vr 70, vr 405, vr 420, vi i4, v5, v6] [vi i_0] V D Q := yat (c := xk_381) (hd := [3810023]) (dk := [3811667, 3811673, 3811679]) (dv := [3811667, 3811673, 3811679]) (nb := []) rfl h
set_option maxRecDepth 20000 in
theorem u_381_1683 {d : Nat} {i4 i5 i_0 : Int} {v6 : xV} {V : xF} {D : yD} {Q : xRes → xF → yD → Prop}
    (h : ((yr_8 V D) = i5 → ((i5 ≠ 0 → RY d 381 23 [vr 1, vr 70, vr 405, vr 420, vi (wr (i4 + 6)), vi i5, vi i_0] [] V D Q) ∧ (i5 = 0 → (((xcmp (D.1 420 0) i_0) = 0 → RY d 381 23 [vr 1, vr 70, vr 405, vr 420, vi (wr (i4 + 6)), vi i5, vi i_0] [] V D Q) ∧ ((xcmp (D.1 420 0) i_0) ≠ 0 → Q (.inl (some (vi 0))) V D))))) ∧ ((yr_8 V D) ≠ i5 → Q (.inl (some (vi 0))) V D)) :
    RY d 381 1683 [vr 1, vr 70, vr 405, vr 420, vi i4, vi i5, v6] [vi i_0] V D Q := yat (c := xk_381) (hd := [3810023]) (dk := []) (dv := []) (nb := [3811691, 3811698, 3811708]) rfl h
set_option maxRecDepth 20000 in
theorem u_381_1745 {d : Nat} {i4 i_0 : Int} {v5 v6 : xV} {V : xF} {D : yD} {Q : xRes → xF → yD → Prop}
    (h : (20 ≤ (yK D.2.2.1 1).1 ∧ (yK D.2.2.1 1).1 ≤ 21) ∧ ((0 : Int) ≤ wr (i4 + 1) ∧ wr (i4 + 1) < ((yK D.2.2.1 1).2 : Int)) ∧ (20 ≤ (yK D.2.2.1 1).1 ∧ (yK D.2.2.1 1).1 ≤ 21) ∧ ((0 : Int) ≤ wr (i4 + 2) ∧ wr (i4 + 2) < ((yK D.2.2.1 1).2 : Int)) ∧ (20 ≤ (yK D.2.2.1 1).1 ∧ (yK D.2.2.1 1).1 ≤ 21) ∧ ((0 : Int) ≤ wr (i4 + 3) ∧ wr (i4 + 3) < ((yK D.2.2.1 1).2 : Int)) ∧ (20 ≤ (yK D.2.2.1 1).1 ∧ (yK D.2.2.1 1).1 ≤ 21) ∧ ((0 : Int) ≤ wr (i4 + 4) ∧ wr (i4 + 4) < ((yK D.2.2.1 1).2 : Int)) ∧ RY d 48 0 [vr 405, vi (V 1 ((wr (i4 + 1)).toNat)), vi (V 1 ((wr (i4 + 2)).toNat)), vi (V 1 ((wr (i4 + 3)).toNat)), vi (V 1 ((wr (i4 + 4)).toNat)), vr 0] [] V D (yback d 381 1775 [vr 1, vr 70, vr 405, vr 420, vi i4, vi i_0, v6] [] Q)) :
    RY d 381 1745 [vr 1, vr 70, vr 405, vr 420, vi i4, v5, v6] [vi i_0] V D Q := yat (c := xk_381) (hd := [3810023]) (dk := [3811753, 3811759, 3811765, 3811771]) (dv := [3811753, 3811759, 3811765, 3811771]) (nb := []) rfl h
set_option maxRecDepth 20000 in
theorem u_381_1775 {d : Nat} {i4 i5 i_0 : Int} {v6 : xV} {V : xF} {D : yD} {Q : xRes → xF → yD → Prop}
    (h : ((yr_8 V D) = i5 → ((i5 ≠ 0 → RY d 381 23 [vr 1, vr 70, vr 405, vr 420, vi (wr (i4 + 6)), vi i5, vi i_0] [] V D Q) ∧ (i5 = 0 → (((xcmp (D.1 420 0) i_0) = 0 → RY d 381 23 [vr 1, vr 70, vr 405, vr 420, vi (wr (i4 + 6)), vi i5, vi i_0] [] V D Q) ∧ ((xcmp (D.1 420 0) i_0) ≠ 0 → Q (.inl (some (vi 0))) V D))))) ∧ ((yr_8 V D) ≠ i5 → Q (.inl (some (vi 0))) V D)) :
    RY d 381 1775 [vr 1, vr 70, vr 405, vr 420, vi i4, vi i5, v6] [vi i_0] V D Q := yat (c := xk_381) (hd := [3810023]) (dk := []) (dv := []) (nb := [3811783, 3811790, 3811800]) rfl h
set_option maxRecDepth 20000 in
theorem u_381_1833 {d : Nat} {i4 i_0 : Int} {v5 v6 : xV} {V : xF} {D : yD} {Q : xRes → xF → yD → Prop}
    (h : (20 ≤ (yK D.2.2.1 1).1 ∧ (yK D.2.2.1 1).1 ≤ 21) ∧ ((0 : Int) ≤ wr (i4 + 1) ∧ wr (i4 + 1) < ((yK D.2.2.1 1).2 : Int)) ∧ (20 ≤ (yK D.2.2.1 1).1 ∧ (yK D.2.2.1 1).1 ≤ 21) ∧ ((0 : Int) ≤ wr (i4 + 2) ∧ wr (i4 + 2) < ((yK D.2.2.1 1).2 : Int)) ∧ (((V 1 ((wr (i4 + 2)).toNat)) = 0 → RY d 50 0 [vr 405, vi (V 1 ((wr (i4 + 1)).toNat)), vi 0, vr 0, vr 0, vr 0] [] V D (yback d 381 1859 [vr 1, vr 70, vr 405, vr 420, vi i4, vi i_0, v6] [] Q)) ∧ ((V 1 ((wr (i4 + 2)).toNat)) ≠ 0 → RY d 50 0 [vr 405, vi (V 1 ((wr (i4 + 1)).toNat)), vi 1, vr 0, vr 0, vr 0] [] V D (yback d 381 1859 [vr 1, vr 70, vr 405, vr 420, vi i4, vi i_0, v6] [] Q)))) :
    RY d 381 1833 [vr 1, vr 70, vr 405, vr 420, vi i4, v5, v6] [vi i_0] V D Q := yat (c := xk_381) (hd := [3810023]) (dk := [3811841, 3811847]) (dv := [3811841, 3811847]) (nb := [3811848]) rfl h
set_option maxRecDepth 20000 in
theorem u_381_1859 {d : Nat} {i4 i5 i_0 : Int} {v6 : xV} {V : xF} {D : yD} {Q : xRes → xF → yD → Prop}
    (h : ((yr_8 V D) = i5 → ((i5 ≠ 0 → RY d 381 23 [vr 1, vr 70, vr 405, vr 420, vi (wr (i4 + 6)), vi i5, vi i_0] [] V D Q) ∧ (i5 = 0 → (((xcmp (D.1 420 0) i_0) = 0 → RY d 381 23 [vr 1, vr 70, vr 405, vr 420, vi (wr (i4 + 6)), vi i5, vi i_0] [] V D Q) ∧ ((xcmp (D.1 420 0) i_0) ≠ 0 → Q (.inl (some (vi 0))) V D))))) ∧ ((yr_8 V D) ≠ i5 → Q (.inl (some (vi 0))) V D)) :
    RY d 381 1859 [vr 1, vr 70, vr 405, vr 420, vi i4, vi i5, v6] [vi i_0] V D Q := yat (c := xk_381) (hd := [3810023]) (dk := []) (dv := []) (nb := [3811867, 3811874, 3811884]) rfl h
set_option maxRecDepth 20000 in
theorem u_381_1903 {d : Nat} {i4 i_0 : Int} {v5 v6 : xV} {V : xF} {D : yD} {Q : xRes → xF → yD → Prop}
    (h : (20 ≤ (yK D.2.2.1 1).1 ∧ (yK D.2.2.1 1).1 ≤ 21) ∧ ((0 : Int) ≤ wr (i4 + 1) ∧ wr (i4 + 1) < ((yK D.2.2.1 1).2 : Int)) ∧ RY d 52 0 [vr 405, vi (V 1 ((wr (i4 + 1)).toNat)), vr 0, vr 0, vr 0, vr 0, vr 0, vr 0, vr 0] [] V D (yback d 381 1915 [vr 1, vr 70, vr 405, vr 420, vi i4, vi i_0, v6] [] Q)) :
    RY d 381 1903 [vr 1, vr 70, vr 405, vr 420, vi i4, v5, v6] [vi i_0] V D Q := yat (c := xk_381) (hd := [3810023]) (dk := [3811911]) (dv := [3811911]) (nb := []) rfl h
set_option maxRecDepth 20000 in
theorem u_381_1915 {d : Nat} {i4 i5 i_0 : Int} {v6 : xV} {V : xF} {D : yD} {Q : xRes → xF → yD → Prop}
    (h : ((yr_8 V D) = i5 → ((i5 ≠ 0 → RY d 381 23 [vr 1, vr 70, vr 405, vr 420, vi (wr (i4 + 6)), vi i5, vi i_0] [] V D Q) ∧ (i5 = 0 → (((xcmp (D.1 420 0) i_0) = 0 → RY d 381 23 [vr 1, vr 70, vr 405, vr 420, vi (wr (i4 + 6)), vi i5, vi i_0] [] V D Q) ∧ ((xcmp (D.1 420 0) i_0) ≠ 0 → Q (.inl (some (vi 0))) V D))))) ∧ ((yr_8 V D) ≠ i5 → Q (.inl (some (vi 0))) V D)) :
    RY d 381 1915 [vr 1, vr 70, vr 405, vr 420, vi i4, vi i5, v6] [vi i_0] V D Q := yat (c := xk_381) (hd := [3810023]) (dk := []) (dv := []) (nb := [3811923, 3811930, 3811940]) rfl h
set_option maxRecDepth 20000 in
theorem u_381_1953 {d : Nat} {i4 i_0 : Int} {v5 v6 : xV} {V : xF} {D : yD} {Q : xRes → xF → yD → Prop}
    (h : RY d 54 0 [vr 405, vr 0, vr 0, vr 0, vr 0] [] V D (yback d 381 1959 [vr 1, vr 70, vr 405, vr 420, vi i4, vi i_0, v6] [] Q)) :
    RY d 381 1953 [vr 1, vr 70, vr 405, vr 420, vi i4, v5, v6] [vi i_0] V D Q := yat (c := xk_381) (hd := [3810023]) (dk := []) (dv := []) (nb := []) rfl h
set_option maxRecDepth 20000 in
theorem u_381_1959 {d : Nat} {i4 i5 i_0 : Int} {v6 : xV} {V : xF} {D : yD} {Q : xRes → xF → yD → Prop}
    (h : ((yr_8 V D) = i5 → ((i5 ≠ 0 → RY d 381 23 [vr 1, vr 70, vr 405, vr 420, vi (wr (i4 + 6)), vi i5, vi i_0] [] V D Q) ∧ (i5 = 0 → (((xcmp (D.1 420 0) i_0) = 0 → RY d 381 23 [vr 1, vr 70, vr 405, vr 420, vi (wr (i4 + 6)), vi i5, vi i_0] [] V D Q) ∧ ((xcmp (D.1 420 0) i_0) ≠ 0 → Q (.inl (some (vi 0))) V D))))) ∧ ((yr_8 V D) ≠ i5 → Q (.inl (some (vi 0))) V D)) :
    RY d 381 1959 [vr 1, vr 70, vr 405, vr 420, vi i4, vi i5, v6] [vi i_0] V D Q := yat (c := xk_381) (hd := [3810023]) (dk := []) (dv := []) (nb := [3811967, 3811974, 3811984]) rfl h
set_option maxRecDepth 20000 in
theorem u_381_2009 {d : Nat} {i4 i_0 : Int} {v5 v6 : xV} {V : xF} {D : yD} {Q : xRes → xF → yD → Prop}
    (h : (20 ≤ (yK D.2.2.1 1).1 ∧ (yK D.2.2.1 1).1 ≤ 21) ∧ ((0 : Int) ≤ wr (i4 + 1) ∧ wr (i4 + 1) < ((yK D.2.2.1 1).2 : Int)) ∧ (20 ≤ (yK D.2.2.1 1).1 ∧ (yK D.2.2.1 1).1 ≤ 21) ∧ ((0 : Int) ≤ wr (i4 + 2) ∧ wr (i4 + 2) < ((yK D.2.2.1 1).2 : Int)) ∧ RY d 56 0 [vr 405, vi (V 1 ((wr (i4 + 1)).toNat)), vi (V 1 ((wr (i4 + 2)).toNat))] [] V D (yback d 381 2027 [vr 1, vr 70, vr 405, vr 420, vi i4, vi i_0, v6] [] Q)) :
    RY d 381 2009 [vr 1, vr 70, vr 405, vr 420, vi i4, v5, v6] [vi i_0] V D Q := yat (c := xk_381) (hd := [3810023]) (dk := [3812017, 3812023]) (dv := [3812017, 3812023]) (nb := []) rfl h
set_option maxRecDepth 20000 in
theorem u_381_2027 {d : Nat} {i4 i5 i_0 : Int} {v6 : xV} {V : xF} {D : yD} {Q : xRes → xF → yD → Prop}
    (h : ((yr_8 V D) = i5 → ((i5 ≠ 0 → RY d 381 23 [vr 1, vr 70, vr 405, vr 420, vi (wr (i4 + 6)), vi i5, vi i_0] [] V D Q) ∧ (i5 = 0 → (((xcmp (D.1 420 0) i_0) = 0 → RY d 381 23 [vr 1, vr 70, vr 405, vr 420, vi (wr (i4 + 6)), vi i5, vi i_0] [] V D Q) ∧ ((xcmp (D.1 420 0) i_0) ≠ 0 → Q (.inl (some (vi 0))) V D))))) ∧ ((yr_8 V D) ≠ i5 → Q (.inl (some (vi 0))) V D)) :
    RY d 381 2027 [vr 1, vr 70, vr 405, vr 420, vi i4, vi i5, v6] [vi i_0] V D Q := yat (c := xk_381) (hd := [3810023]) (dk := []) (dv := []) (nb := [3812035, 3812042, 3812052]) rfl h
set_option maxRecDepth 20000 in
theorem u_381_2064 {d : Nat} {i4 i_0 : Int} {v5 v6 : xV} {V : xF} {D : yD} {Q : xRes → xF → yD → Prop}
    (h : RY d 58 0 [vr 405, vr 0, vr 0, vr 0] [] V D (yback d 381 2068 [vr 1, vr 70, vr 405, vr 420, vi i4, v5, v6] [vi i_0] Q)) :
    RY d 381 2064 [vr 1, vr 70, vr 405, vr 420, vi i4, v5, v6] [vi i_0] V D Q := yat (c := xk_381) (hd := [3810023]) (dk := []) (dv := []) (nb := []) rfl h
set_option maxRecDepth 20000 in
theorem u_381_2068 {d : Nat} {i4 i_0 i_1 : Int} {v5 v6 : xV} {V : xF} {D : yD} {Q : xRes → xF → yD → Prop}
    (h : (i_0 = i_1 → RY d 381 23 [vr 1, vr 70, vr 405, vr 420, vi (wr (i4 + 6)), v5, v6] [] V D Q) ∧ (i_0 ≠ i_1 → Q (.inl (some (vi 0))) V D)) :
    RY d 381 2068 [vr 1, vr 70, vr 405, vr 420, vi i4, v5, v6] [vi i_1, vi i_0] V D Q := yat (c := xk_381) (hd := [3810023]) (dk := []) (dv := []) (nb := [3812068]) rfl h
set_option maxRecDepth 20000 in
theorem u_381_2091 {d : Nat} {i4 i_0 : Int} {v5 v6 : xV} {V : xF} {D : yD} {Q : xRes → xF → yD → Prop}
    (h : (20 ≤ (yK D.2.2.1 1).1 ∧ (yK D.2.2.1 1).1 ≤ 21) ∧ ((0 : Int) ≤ wr (i4 + 1) ∧ wr (i4 + 1) < ((yK D.2.2.1 1).2 : Int)) ∧ (((V 1 ((wr (i4 + 1)).toNat)) = 0 → RY d 60 0 [vr 405, vi 0, vr 0, vr 0, vr 0, vr 0, vr 0, vr 0, vr 0] [] V D (yback d 381 2109 [vr 1, vr 70, vr 405, vr 420, vi i4, v5, v6] [vi i_0] Q)) ∧ ((V 1 ((wr (i4 + 1)).toNat)) ≠ 0 → RY d 60 0 [vr 405, vi 1, vr 0, vr 0, vr 0, vr 0, vr 0, vr 0, vr 0] [] V D (yback d 381 2109 [vr 1, vr 70, vr 405, vr 420, vi i4, v5, v6] [vi i_0] Q)))) :
    RY d 381 2091 [vr 1, vr 70, vr 405, vr 420, vi i4, v5, v6] [vi i_0] V D Q := yat (c := xk_381) (hd := [3810023]) (dk := [3812097]) (dv := [3812097]) (nb := [3812098]) rfl h
set_option maxRecDepth 20000 in
theorem u_381_2109 {d : Nat} {i4 i_0 i_1 : Int} {v5 v6 : xV} {V : xF} {D : yD} {Q : xRes → xF → yD → Prop}
    (h : (i_0 = i_1 → RY d 381 23 [vr 1, vr 70, vr 405, vr 420, vi (wr (i4 + 6)), v5, v6] [] V D Q) ∧ (i_0 ≠ i_1 → Q (.inl (some (vi 0))) V D)) :
    RY d 381 2109 [vr 1, vr 70, vr 405, vr 420, vi i4, v5, v6] [vi i_1, vi i_0] V D Q := yat (c := xk_381) (hd := [3810023]) (dk := []) (dv := []) (nb := [3812109]) rfl h
set_option maxRecDepth 20000 in
theorem u_381_2145 {d : Nat} {i4 i_0 : Int} {v5 v6 : xV} {V : xF} {D : yD} {Q : xRes → xF → yD → Prop}
    (h : (20 ≤ (yK D.2.2.1 1).1 ∧ (yK D.2.2.1 1).1 ≤ 21) ∧ ((0 : Int) ≤ wr (i4 + 1) ∧ wr (i4 + 1) < ((yK D.2.2.1 1).2 : Int)) ∧ (20 ≤ (yK D.2.2.1 1).1 ∧ (yK D.2.2.1 1).1 ≤ 21) ∧ ((0 : Int) ≤ wr (i4 + 2) ∧ wr (i4 + 2) < ((yK D.2.2.1 1).2 : Int)) ∧ (20 ≤ (yK D.2.2.1 1).1 ∧ (yK D.2.2.1 1).1 ≤ 21) ∧ ((0 : Int) ≤ wr (i4 + 3) ∧ wr (i4 + 3) < ((yK D.2.2.1 1).2 : Int)) ∧ (((V 1 ((wr (i4 + 3)).toNat)) = 0 → RY d 62 0 [vr 405, vi (V 1 ((wr (i4 + 1)).toNat)), vi (V 1 ((wr (i4 + 2)).toNat)), vi 0, vr 0, vr 0, vr 0, vr 0, vr 0, vr 0] [] V D (yback d 381 2177 [vr 1, vr 70, vr 405, vr 420, vi i4, vi i_0, v6] [] Q)) ∧ ((V 1 ((wr (i4 + 3)).toNat)) ≠ 0 → RY d 62 0 [vr 405, vi (V 1 ((wr (i4 + 1)).toNat)), vi (V 1 ((wr (i4 + 2)).toNat)), vi 1, vr 0, vr 0, vr 0, vr 0, vr 0, vr 0] [] V D (yback d 381 2177 [vr 1, vr 70, vr 405, vr 420, vi i4, vi i_0, v6] [] Q)))) :
    RY d 381 2145 [vr 1, vr 70, vr 405, vr 420, vi i4, v5, v6] [vi i_0] V D Q := yat (c := xk_381) (hd := [3810023]) (dk := [3812153, 3812159, 3812165]) (dv := [3812153, 3812159, 3812165]) (nb := [3812166]) rfl h
set_option maxRecDepth 20000 in
theorem u_381_2177 {d : Nat} {i4 i5 i_0 : Int} {v6 : xV} {V : xF} {D : yD} {Q : xRes → xF → yD → Prop}
    (h : ((yr_8 V D) = i5 → ((i5 ≠ 0 → RY d 381 23 [vr 1, vr 70, vr 405, vr 420, vi (wr (i4 + 6)), vi i5, vi i_0] [] V D Q) ∧ (i5 = 0 → (((xcmp (D.1 420 0) i_0) = 0 → RY d 381 23 [vr 1, vr 70, vr 405, vr 420, vi (wr (i4 + 6)), vi i5, vi i_0] [] V D Q) ∧ ((xcmp (D.1 420 0) i_0) ≠ 0 → Q (.inl (some (vi 0))) V D))))) ∧ ((yr_8 V D) ≠ i5 → Q (.inl (some (vi 0))) V D)) :
    RY d 381 2177 [vr 1, vr 70, vr 405, vr 420, vi i4, vi i5, v6] [vi i_0] V D Q := yat (c := xk_381) (hd := [3810023]) (dk := []) (dv := []) (nb := [3812185, 3812192, 3812202]) rfl h
set_option maxRecDepth 20000 in
theorem u_381_2227 {d : Nat} {i4 i_0 : Int} {v5 v6 : xV} {V : xF} {D : yD} {Q : xRes → xF → yD → Prop}
    (h : (20 ≤ (yK D.2.2.1 1).1 ∧ (yK D.2.2.1 1).1 ≤ 21) ∧ ((0 : Int) ≤ wr (i4 + 1) ∧ wr (i4 + 1) < ((yK D.2.2.1 1).2 : Int)) ∧ (20 ≤ (yK D.2.2.1 1).1 ∧ (yK D.2.2.1 1).1 ≤ 21) ∧ ((0 : Int) ≤ wr (i4 + 2) ∧ wr (i4 + 2) < ((yK D.2.2.1 1).2 : Int)) ∧ RY d 64 0 [vr 405, vi (V 1 ((wr (i4 + 1)).toNat)), vi (V 1 ((wr (i4 + 2)).toNat)), vr 0, vr 0, vr 0, vr 0, vr 0] [] V D (yback d 381 2245 [vr 1, vr 70, vr 405, vr 420, vi i4, vi i_0, v6] [] Q)) :
    RY d 381 2227 [vr 1, vr 70, vr 405, vr 420, vi i4, v5, v6] [vi i_0] V D Q := yat (c := xk_381) (hd := [3810023]) (dk := [3812235, 3812241]) (dv := [3812235, 3812241]) (nb := []) rfl h
set_option maxRecDepth 20000 in
theorem u_381_2245 {d : Nat} {i4 i5 i_0 : Int} {v6 : xV} {V : xF} {D : yD} {Q : xRes → xF → yD → Prop}
    (h : ((yr_8 V D) = i5 → ((i5 ≠ 0 → RY d 381 23 [vr 1, vr 70, vr 405, vr 420, vi (wr (i4 + 6)), vi i5, vi i_0] [] V D Q) ∧ (i5 = 0 → (((xcmp (D.1 420 0) i_0) = 0 → RY d 381 23 [vr 1, vr 70, vr 405, vr 420, vi (wr (i4 + 6)), vi i5, vi i_0] [] V D Q) ∧ ((xcmp (D.1 420 0) i_0) ≠ 0 → Q (.inl (some (vi 0))) V D))))) ∧ ((yr_8 V D) ≠ i5 → Q (.inl (some (vi 0))) V D)) :
    RY d 381 2245 [vr 1, vr 70, vr 405, vr 420, vi i4, vi i5, v6] [vi i_0] V D Q := yat (c := xk_381) (hd := [3810023]) (dk := []) (dv := []) (nb := [3812253, 3812260, 3812270]) rfl h
set_option maxRecDepth 20000 in
theorem u_381_2289 {d : Nat} {i4 i_0 : Int} {v5 v6 : xV} {V : xF} {D : yD} {Q : xRes → xF → yD → Prop}
    (h : (20 ≤ (yK D.2.2.1 1).1 ∧ (yK D.2.2.1 1).1 ≤ 21) ∧ ((0 : Int) ≤ wr (i4 + 1) ∧ wr (i4 + 1) < ((yK D.2.2.1 1).2 : Int)) ∧ RY d 66 0 [vr 405, vi (V 1 ((wr (i4 + 1)).toNat))] [] V D (yback d 381 2301 [vr 1, vr 70, vr 405, vr 420, vi i4, vi i_0, v6] [] Q)) :
    RY d 381 2289 [vr 1, vr 70, vr 405, vr 420, vi i4, v5, v6] [vi i_0] V D Q := yat (c := xk_381) (hd := [3810023]) (dk := [3812297]) (dv := [3812297]) (nb := []) rfl h
set_option maxRecDepth 20000 in
theorem u_381_2301 {d : Nat} {i4 i5 i_0 : Int} {v6 : xV} {V : xF} {D : yD} {Q : xRes → xF → yD → Prop}
    (h : ((yr_8 V D) = i5 → ((i5 ≠ 0 → RY d 381 23 [vr 1, vr 70, vr 405, vr 420, vi (wr (i4 + 6)), vi i5, vi i_0] [] V D Q) ∧ (i5 = 0 → (((xcmp (D.1 420 0) i_0) = 0 → RY d 381 23 [vr 1, vr 70, vr 405, vr 420, vi (wr (i4 + 6)), vi i5, vi i_0] [] V D Q) ∧ ((xcmp (D.1 420 0) i_0) ≠ 0 → Q (.inl (some (vi 0))) V D))))) ∧ ((yr_8 V D) ≠ i5 → Q (.inl (some (vi 0))) V D)) :
    RY d 381 2301 [vr 1, vr 70, vr 405, vr 420, vi i4, vi i5, v6] [vi i_0] V D Q := yat (c := xk_381) (hd := [3810023]) (dk := []) (dv := []) (nb := [3812309, 3812316, 3812326]) rfl h
set_option maxRecDepth 20000 in
theorem u_381_2338 {d : Nat} {i4 i_0 : Int} {v5 v6 : xV} {V : xF} {D : yD} {Q : xRes → xF → yD → Prop}
    (h : RY d 68 0 [vr 405, vr 0, vr 0, vr 0] [] V D (yback d 381 2342 [vr 1, vr 70, vr 405, vr 420, vi i4, v5, v6] [vi i_0] Q)) :
    RY d 381 2338 [vr 1, vr 70, vr 405, vr 420, vi i4, v5, v6] [vi i_0] V D Q := yat (c := xk_381) (hd := [3810023]) (dk := []) (dv := []) (nb := []) rfl h
set_option maxRecDepth 20000 in
theorem u_381_2342 {d : Nat} {i4 i_0 i_1 : Int} {v5 v6 : xV} {V : xF} {D : yD} {Q : xRes → xF → yD → Prop}
    (h : (i_0 = i_1 → RY d 381 23 [vr 1, vr 70, vr 405, vr 420, vi (wr (i4 + 6)), v5, v6] [] V D Q) ∧ (i_0 ≠ i_1 → Q (.inl (some (vi 0))) V D)) :
    RY d 381 2342 [vr 1, vr 70, vr 405, vr 420, vi i4, v5, v6] [vi i_1, vi i_0] V D Q := yat (c := xk_381) (hd := [3810023]) (dk := []) (dv := []) (nb := [3812342]) rfl h
set_option maxRecDepth 20000 in
theorem u_381_2358 {d : Nat} {i4 i_0 : Int} {v5 v6 : xV} {V : xF} {D : yD} {Q : xRes → xF → yD → Prop}
    (h : (20 ≤ (yK D.2.2.1 1).1 ∧ (yK D.2.2.1 1).1 ≤ 21) ∧ ((0 : Int) ≤ wr (i4 + 1) ∧ wr (i4 + 1) < ((yK D.2.2.1 1).2 : Int)) ∧ RY d 70 0 [vr 405, vi (V 1 ((wr (i4 + 1)).toNat)), vr 0, vr 0, vr 0, vr 0] [] V D (yback d 381 2370 [vr 1, vr 70, vr 405, vr 420, vi i4, vi i_0, v6] [] Q)) :
    RY d 381 2358 [vr 1, vr 70, vr 405, vr 420, vi i4, v5, v6] [vi i_0] V D Q := yat (c := xk_381) (hd := [3810023]) (dk := [3812366]) (dv := [3812366]) (nb := []) rfl h
set_option maxRecDepth 20000 in
theorem u_381_2370 {d : Nat} {i4 i5 i_0 : Int} {v6 : xV} {V : xF} {D : yD} {Q : xRes → xF → yD → Prop}
    (h : ((yr_8 V D) = i5 → ((i5 ≠ 0 → RY d 381 23 [vr 1, vr 70, vr 405, vr 420, vi (wr (i4 + 6)), vi i5, vi i_0] [] V D Q) ∧ (i5 = 0 → (((xcmp (D.1 420 0) i_0) = 0 → RY d 381 23 [vr 1, vr 70, vr 405, vr 420, vi (wr (i4 + 6)), vi i5, vi i_0] [] V D Q) ∧ ((xcmp (D.1 420 0) i_0) ≠ 0 → Q (.inl (some (vi 0))) V D))))) ∧ ((yr_8 V D) ≠ i5 → Q (.inl (some (vi 0))) V D)) :
    RY d 381 2370 [vr 1, vr 70, vr 405, vr 420, vi i4, vi i5, v6] [vi i_0] V D Q := yat (c := xk_381) (hd := [3810023]) (dk := []) (dv := []) (nb := [3812378, 3812385, 3812395]) rfl h
set_option maxRecDepth 20000 in
theorem u_381_2407 {d : Nat} {i4 i_0 : Int} {v5 v6 : xV} {V : xF} {D : yD} {Q : xRes → xF → yD → Prop}
    (h : RY d 72 0 [vr 405, vr 0, vr 0, vr 0, vr 0, vr 0] [] V D (yback d 381 2411 [vr 1, vr 70, vr 405, vr 420, vi i4, v5, v6] [vi i_0] Q)) :
    RY d 381 2407 [vr 1, vr 70, vr 405, vr 420, vi i4, v5, v6] [vi i_0] V D Q := yat (c := xk_381) (hd := [3810023]) (dk := []) (dv := []) (nb := []) rfl h
set_option maxRecDepth 20000 in
theorem u_381_2411 {d : Nat} {i4 i_0 i_1 : Int} {v5 v6 : xV} {V : xF} {D : yD} {Q : xRes → xF → yD → Prop}
    (h : (i_0 = i_1 → RY d 381 23 [vr 1, vr 70, vr 405, vr 420, vi (wr (i4 + 6)), v5, v6] [] V D Q) ∧ (i_0 ≠ i_1 → Q (.inl (some (vi 0))) V D)) :
    RY d 381 2411 [vr 1, vr 70, vr 405, vr 420, vi i4, v5, v6] [vi i_1, vi i_0] V D Q := yat (c := xk_381) (hd := [3810023]) (dk := []) (dv := []) (nb := [3812411]) rfl h
set_option maxRecDepth 20000 in
theorem u_381_2433 {d : Nat} {i4 i_0 : Int} {v5 v6 : xV} {V : xF} {D : yD} {Q : xRes → xF → yD → Prop}
    (h : (20 ≤ (yK D.2.2.1 1).1 ∧ (yK D.2.2.1 1).1 ≤ 21) ∧ ((0 : Int) ≤ wr (i4 + 1) ∧ wr (i4 + 1) < ((yK D.2.2.1 1).2 : Int)) ∧ (20 ≤ (yK D.2.2.1 1).1 ∧ (yK D.2.2.1 1).1 ≤ 21) ∧ ((0 : Int) ≤ wr (i4 + 2) ∧ wr (i4 + 2) < ((yK D.2.2.1 1).2 : Int)) ∧ RY d 74 0 [vr 405, vi (V 1 ((wr (i4 + 1)).toNat)), vi (V 1 ((wr (i4 + 2)).toNat))] [] V D (yback d 381 2451 [vr 1, vr 70, vr 405, vr 420, vi i4, vi i_0, v6] [] Q)) :
    RY d 381 2433 [vr 1, vr 70, vr 405, vr 420, vi i4, v5, v6] [vi i_0] V D Q := yat (c := xk_381) (hd := [3810023]) (dk := [3812441, 3812447]) (dv := [3812441, 3812447]) (nb := []) rfl h
set_option maxRecDepth 20000 in
theorem u_381_2451 {d : Nat} {i4 i5 i_0 : Int} {v6 : xV} {V : xF} {D : yD} {Q : xRes → xF → yD → Prop}
    (h : ((yr_8 V D) = i5 → ((i5 ≠ 0 → RY d 381 23 [vr 1, vr 70, vr 405, vr 420, vi (wr (i4 + 6)), vi i5, vi i_0] [] V D Q) ∧ (i5 = 0 → (((xcmp (D.1 420 0) i_0) = 0 → RY d 381 23 [vr 1, vr 70, vr 405, vr 420, vi (wr (i4 + 6)), vi i5, vi i_0] [] V D Q) ∧ ((xcmp (D.1 420 0) i_0) ≠ 0 → Q (.inl (some (vi 0))) V D))))) ∧ ((yr_8 V D) ≠ i5 → Q (.inl (some (vi 0))) V D)) :
    RY d 381 2451 [vr 1, vr 70, vr 405, vr 420, vi i4, vi i5, v6] [vi i_0] V D Q := yat (c := xk_381) (hd := [3810023]) (dk := []) (dv := []) (nb := [3812459, 3812466, 3812476]) rfl h
set_option maxRecDepth 20000 in
theorem u_381_2507 {d : Nat} {i4 i_0 : Int} {v5 v6 : xV} {V : xF} {D : yD} {Q : xRes → xF → yD → Prop}
    (h : (20 ≤ (yK D.2.2.1 1).1 ∧ (yK D.2.2.1 1).1 ≤ 21) ∧ ((0 : Int) ≤ wr (i4 + 1) ∧ wr (i4 + 1) < ((yK D.2.2.1 1).2 : Int)) ∧ (20 ≤ (yK D.2.2.1 1).1 ∧ (yK D.2.2.1 1).1 ≤ 21) ∧ ((0 : Int) ≤ wr (i4 + 2) ∧ wr (i4 + 2) < ((yK D.2.2.1 1).2 : Int)) ∧ (20 ≤ (yK D.2.2.1 1).1 ∧ (yK D.2.2.1 1).1 ≤ 21) ∧ ((0 : Int) ≤ wr (i4 + 3) ∧ wr (i4 + 3) < ((yK D.2.2.1 1).2 : Int)) ∧ RY d 76 0 [vr 405, vi (V 1 ((wr (i4 + 1)).toNat)), vi (V 1 ((wr (i4 + 2)).toNat)), vi (V 1 ((wr (i4 + 3)).toNat)), vr 0, vr 0, vr 0, vr 0] [] V D (yback d 381 2531 [vr 1, vr 70, vr 405, vr 420, vi i4, vi i_0, v6] [] Q)) :
    RY d 381 2507 [vr 1, vr 70, vr 405, vr 420, vi i4, v5, v6] [vi i_0] V D Q := yat (c := xk_381) (hd := [3810023]) (dk := [3812515, 3812521, 3812527]) (dv := [3812515, 3812521, 3812527]) (nb := []) rfl h
set_option maxRecDepth 20000 in
theorem u_381_2531 {d : Nat} {i4 i5 i_0 : Int} {v6 : xV} {V : xF} {D : yD} {Q : xRes → xF → yD → Prop}
    (h : ((yr_8 V D) = i5 → ((i5 ≠ 0 → RY d 381 23 [vr 1, vr 70, vr 405, vr 420, vi (wr (i4 + 6)), vi i5, vi i_0] [] V D Q) ∧ (i5 = 0 → (((xcmp (D.1 420 0) i_0) = 0 → RY d 381 23 [vr 1, vr 70, vr 405, vr 420, vi (wr (i4 + 6)), vi i5, vi i_0] [] V D Q) ∧ ((xcmp (D.1 420 0) i_0) ≠ 0 → Q (.inl (some (vi 0))) V D))))) ∧ ((yr_8 V D) ≠ i5 → Q (.inl (some (vi 0))) V D)) :
    RY d 381 2531 [vr 1, vr 70, vr 405, vr 420, vi i4, vi i5, v6] [vi i_0] V D Q := yat (c := xk_381) (hd := [3810023]) (dk := []) (dv := []) (nb := [3812539, 3812546, 3812556]) rfl h
set_option maxRecDepth 20000 in
theorem u_381_2581 {d : Nat} {i4 i_0 : Int} {v5 v6 : xV} {V : xF} {D : yD} {Q : xRes → xF → yD → Prop}
    (h : (20 ≤ (yK D.2.2.1 1).1 ∧ (yK D.2.2.1 1).1 ≤ 21) ∧ ((0 : Int) ≤ wr (i4 + 1) ∧ wr (i4 + 1) < ((yK D.2.2.1 1).2 : Int)) ∧ (20 ≤ (yK D.2.2.1 1).1 ∧ (yK D.2.2.1 1).1 ≤ 21) ∧ ((0 : Int) ≤ wr (i4 + 2) ∧ wr (i4 + 2) < ((yK D.2.2.1 1).2 : Int)) ∧ RY d 78 0 [vr 405, vi (V 1 ((wr (i4 + 1)).toNat)), vi (V 1 ((wr (i4 + 2)).toNat)), vr 0, vr 0, vr 0, vr 0, vr 0, vr 0, vr 0, vr 0] [] V D (yback d 381 2599 [vr 1, vr 70, vr 405, vr 420, vi i4, vi i_0, v6] [] Q)) :
    RY d 381 2581 [vr 1, vr 70, vr 405, vr 420, vi i4, v5, v6] [vi i_0] V D Q := yat (c := xk_381) (hd := [3810023]) (dk := [3812589, 3812595]) (dv := [3812589, 3812595]) (nb := []) rfl h
set_option maxRecDepth 20000 in
theorem u_381_2599 {d : Nat} {i4 i5 i_0 : Int} {v6 : xV} {V : xF} {D : yD} {Q : xRes → xF → yD → Prop}
    (h : ((yr_8 V D) = i5 → ((i5 ≠ 0 → RY d 381 23 [vr 1, vr 70, vr 405, vr 420, vi (wr (i4 + 6)), vi i5, vi i_0] [] V D Q) ∧ (i5 = 0 → (((xcmp (D.1 420 0) i_0) = 0 → RY d 381 23 [vr 1, vr 70, vr 405, vr 420, vi (wr (i4 + 6)), vi i5, vi i_0] [] V D Q) ∧ ((xcmp (D.1 420 0) i_0) ≠ 0 → Q (.inl (some (vi 0))) V D))))) ∧ ((yr_8 V D) ≠ i5 → Q (.inl (some (vi 0))) V D)) :
    RY d 381 2599 [vr 1, vr 70, vr 405, vr 420, vi i4, vi i5, v6] [vi i_0] V D Q := yat (c := xk_381) (hd := [3810023]) (dk := []) (dv := []) (nb := [3812607, 3812614, 3812624]) rfl h
set_option maxRecDepth 20000 in
theorem u_381_2636 {d : Nat} {i4 i_0 : Int} {v5 v6 : xV} {V : xF} {D : yD} {Q : xRes → xF → yD → Prop}
    (h : RY d 80 0 [vr 405, vr 0, vr 0] [] V D (yback d 381 2640 [vr 1, vr 70, vr 405, vr 420, vi i4, v5, v6] [vi i_0] Q)) :
    RY d 381 2636 [vr 1, vr 70, vr 405, vr 420, vi i4, v5, v6] [vi i_0] V D Q := yat (c := xk_381) (hd := [3810023]) (dk := []) (dv := []) (nb := []) rfl h
set_option maxRecDepth 20000 in
theorem u_381_2640 {d : Nat} {i4 i_0 i_1 : Int} {v5 v6 : xV} {V : xF} {D : yD} {Q : xRes → xF → yD → Prop}
    (h : (i_0 = i_1 → RY d 381 23 [vr 1, vr 70, vr 405, vr 420, vi (wr (i4 + 6)), v5, v6] [] V D Q) ∧ (i_0 ≠ i_1 → Q (.inl (some (vi 0))) V D)) :
    RY d 381 2640 [vr 1, vr 70, vr 405, vr 420, vi i4, v5, v6] [vi i_1, vi i_0] V D Q := yat (c := xk_381) (hd := [3810023]) (dk := []) (dv := []) (nb := [3812640]) rfl h
set_option maxRecDepth 20000 in
theorem u_381_2649 {d : Nat} {i4 i_0 : Int} {v5 v6 : xV} {V : xF} {D : yD} {Q : xRes → xF → yD → Prop}
    (h : RY d 82 0 [vr 405] [] V D (yback d 381 2653 [vr 1, vr 70, vr 405, vr 420, vi i4, v5, v6] [vi i_0] Q)) :
    RY d 381 2649 [vr 1, vr 70, vr 405, vr 420, vi i4, v5, v6] [vi i_0] V D Q := yat (c := xk_381) (hd := [3810023]) (dk := []) (dv := []) (nb := []) rfl h
set_option maxRecDepth 20000 in
theorem u_381_2653 {d : Nat} {i4 i_0 i_1 : Int} {v5 v6 : xV} {V : xF} {D : yD} {Q : xRes → xF → yD → Prop}
    (h : (i_0 = i_1 → RY d 381 23 [vr 1, vr 70, vr 405, vr 420, vi (wr (i4 + 6)), v5, v6] [] V D Q) ∧ (i_0 ≠ i_1 → Q (.inl (some (vi 0))) V D)) :
    RY d 381 2653 [vr 1, vr 70, vr 405, vr 420, vi i4, v5, v6] [vi i_1, vi i_0] V D Q := yat (c := xk_381) (hd := [3810023]) (dk := []) (dv := []) (nb := [3812653]) rfl h
set_option maxRecDepth 20000 in
theorem u_381_2662 {d : Nat} {i4 i_0 : Int} {v5 v6 : xV} {V : xF} {D : yD} {Q : xRes → xF → yD → Prop}
    (h : RY d 84 0 [vr 405, vr 0, vr 0] [] V D (yback d 381 2666 [vr 1, vr 70, vr 405, vr 420, vi i4, v5, v6] [vi i_0] Q)) :
    RY d 381 2662 [vr 1, vr 70, vr 405, vr 420, vi i4, v5, v6] [vi i_0] V D Q := yat (c := xk_381) (hd := [3810023]) (dk := []) (dv := []) (nb := []) rfl h
set_option maxRecDepth 20000 in
theorem u_381_2666 {d : Nat} {i4 i_0 i_1 : Int} {v5 v6 : xV} {V : xF} {D : yD} {Q : xRes → xF → yD → Prop}
    (h : (i_0 = i_1 → RY d 381 23 [vr 1, vr 70, vr 405, vr 420, vi (wr (i4 + 6)), v5, v6] [] V D Q) ∧ (i_0 ≠ i_1 → Q (.inl (some (vi 0))) V D)) :
    RY d 381 2666 [vr 1, vr 70, vr 405, vr 420, vi i4, v5, v6] [vi i_1, vi i_0] V D Q := yat (c := xk_381) (hd := [3810023]) (dk := []) (dv := []) (nb := [3812666]) rfl h
set_option maxRecDepth 20000 in
theorem u_381_2675 {d : Nat} {i4 i_0 : Int} {v5 v6 : xV} {V : xF} {D : yD} {Q : xRes → xF → yD → Prop}
    (h : RY d 86 0 [vr 405, vr 0, vr 0] [] V D (yback d 381 2679 [vr 1, vr 70, vr 405, vr 420, vi i4, v5, v6] [vi i_0] Q)) :
    RY d 381 2675 [vr 1, vr 70, vr 405, vr 420, vi i4, v5, v6] [vi i_0] V D Q := yat (c := xk_381) (hd := [3810023]) (dk := []) (dv := []) (nb := []) rfl h
set_option maxRecDepth 20000 in
theorem u_381_2679 {d : Nat} {i4 i_0 i_1 : Int} {v5 v6 : xV} {V : xF} {D : yD} {Q : xRes → xF → yD → Prop}
    (h : (i_0 = i_1 → RY d 381 23 [vr 1, vr 70, vr 405, vr 420, vi (wr (i4 + 6)), v5, v6] [] V D Q) ∧ (i_0 ≠ i_1 → Q (.inl (some (vi 0))) V D)) :
    RY d 381 2679 [vr 1, vr 70, vr 405, vr 420, vi i4, v5, v6] [vi i_1, vi i_0] V D Q := yat (c := xk_381) (hd := [3810023]) (dk := []) (dv := []) (nb := [3812679]) rfl h
set_option maxRecDepth 20000 in
theorem u_381_2688 {d : Nat} {i4 i_0 : Int} {v5 v6 : xV} {V : xF} {D : yD} {Q : xRes → xF → yD → Prop}
    (h : RY d 88 0 [vr 405, vr 0, vr 0, vr 0] [] V D (yback d 381 2692 [vr 1, vr 70, vr 405, vr 420, vi i4, v5, v6] [vi i_0] Q)) :
    RY d 381 2688 [vr 1, vr 70, vr 405, vr 420, vi i4, v5, v6] [vi i_0] V D Q := yat (c := xk_381) (hd := [3810023]) (dk := []) (dv := []) (nb := []) rfl h
set_option maxRecDepth 20000 in
theorem u_381_2692 {d : Nat} {i4 i_0 i_1 : Int} {v5 v6 : xV} {V : xF} {D : yD} {Q : xRes → xF → yD → Prop}
    (h : (i_0 = i_1 → RY d 381 23 [vr 1, vr 70, vr 405, vr 420, vi (wr (i4 + 6)), v5, v6] [] V D Q) ∧ (i_0 ≠ i_1 → Q (.inl (some (vi 0))) V D)) :
    RY d 381 2692 [vr 1, vr 70, vr 405, vr 420, vi i4, v5, v6] [vi i_1, vi i_0] V D Q := yat (c := xk_381) (hd := [3810023]) (dk := []) (dv := []) (nb := [3812692]) rfl h
set_option maxRecDepth 20000 in
theorem u_381_2708 {d : Nat} {i4 i_0 : Int} {v5 v6 : xV} {V : xF} {D : yD} {Q : xRes → xF → yD → Prop}
    (h : (20 ≤ (yK D.2.2.1 1).1 ∧ (yK D.2.2.1 1).1 ≤ 21) ∧ ((0 : Int) ≤ wr (i4 + 1) ∧ wr (i4 + 1) < ((yK D.2.2.1 1).2 : Int)) ∧ RY d 90 0 [vr 405, vi (V 1 ((wr (i4 + 1)).toNat)), vr 0, vr 0, vr 0] [] V D (yback d 381 2720 [vr 1, vr 70, vr 405, vr 420, vi i4, vi i_0, v6] [] Q)) :
    RY d 381 2708 [vr 1, vr 70, vr 405, vr 420, vi i4, v5, v6] [vi i_0] V D Q := yat (c := xk_381) (hd := [3810023]) (dk := [3812716]) (dv := [3812716]) (nb := []) rfl h
set_option maxRecDepth 20000 in
theorem u_381_2720 {d : Nat} {i4 i5 i_0 : Int} {v6 : xV} {V : xF} {D : yD} {Q : xRes → xF → yD → Prop}
    (h : ((yr_8 V D) = i5 → ((i5 ≠ 0 → RY d 381 23 [vr 1, vr 70, vr 405, vr 420, vi (wr (i4 + 6)), vi i5, vi i_0] [] V D Q) ∧ (i5 = 0 → (((xcmp (D.1 420 0) i_0) = 0 → RY d 381 23 [vr 1, vr 70, vr 405, vr 420, vi (wr (i4 + 6)), vi i5, vi i_0] [] V D Q) ∧ ((xcmp (D.1 420 0) i_0) ≠ 0 → Q (.inl (some (vi 0))) V D))))) ∧ ((yr_8 V D) ≠ i5 → Q (.inl (some (vi 0))) V D)) :
    RY d 381 2720 [vr 1, vr 70, vr 405, vr 420, vi i4, vi i5, v6] [vi i_0] V D Q := yat (c := xk_381) (hd := [3810023]) (dk := []) (dv := []) (nb := [3812728, 3812735, 3812745]) rfl h
set_option maxRecDepth 20000 in
theorem u_381_2770 {d : Nat} {i4 i_0 : Int} {v5 v6 : xV} {V : xF} {D : yD} {Q : xRes → xF → yD → Prop}
    (h : (20 ≤ (yK D.2.2.1 1).1 ∧ (yK D.2.2.1 1).1 ≤ 21) ∧ ((0 : Int) ≤ wr (i4 + 1) ∧ wr (i4 + 1) < ((yK D.2.2.1 1).2 : Int)) ∧ (20 ≤ (yK D.2.2.1 1).1 ∧ (yK D.2.2.1 1).1 ≤ 21) ∧ ((0 : Int) ≤ wr (i4 + 2) ∧ wr (i4 + 2) < ((yK D.2.2.1 1).2 : Int)) ∧ RY d 92 0 [vr 405, vi (V 1 ((wr (i4 + 1)).toNat)), vi (V 1 ((wr (i4 + 2)).toNat)), vr 0] [] V D (yback d 381 2788 [vr 1, vr 70, vr 405, vr 420, vi i4, vi i_0, v6] [] Q)) :
    RY d 381 2770 [vr 1, vr 70, vr 405, vr 420, vi i4, v5, v6] [vi i_0] V D Q := yat (c := xk_381) (hd := [3810023]) (dk := [3812778, 3812784]) (dv := [3812778, 3812784]) (nb := []) rfl h
set_option maxRecDepth 20000 in
theorem u_381_2788 {d : Nat} {i4 i5 i_0 : Int} {v6 : xV} {V : xF} {D : yD} {Q : xRes → xF → yD → Prop}
    (h : ((yr_8 V D) = i5 → ((i5 ≠ 0 → RY d 381 23 [vr 1, vr 70, vr 405, vr 420, vi (wr (i4 + 6)), vi i5, vi i_0] [] V D Q) ∧ (i5 = 0 → (((xcmp (D.1 420 0) i_0) = 0 → RY d 381 23 [vr 1, vr 70, vr 405, vr 420, vi (wr (i4 + 6)), vi i5, vi i_0] [] V D Q) ∧ ((xcmp (D.1 420 0) i_0) ≠ 0 → Q (.inl (some (vi 0))) V D))))) ∧ ((yr_8 V D) ≠ i5 → Q (.inl (some (vi 0))) V D)) :
    RY d 381 2788 [vr 1, vr 70, vr 405, vr 420, vi i4, vi i5, v6] [vi i_0] V D Q := yat (c := xk_381) (hd := [3810023]) (dk := []) (dv := []) (nb := [3812796, 3812803, 3812813]) rfl h
set_option maxRecDepth 20000 in
theorem u_381_2846 {d : Nat} {i4 i_0 : Int} {v5 v6 : xV} {V : xF} {D : yD} {Q : xRes → xF → yD → Prop}
    (h : (20 ≤ (yK D.2.2.1 1).1 ∧ (yK D.2.2.1 1).1 ≤ 21) ∧ ((0 : Int) ≤ wr (i4 + 1) ∧ wr (i4 + 1) < ((yK D.2.2.1 1).2 : Int)) ∧ (20 ≤ (yK D.2.2.1 1).1 ∧ (yK D.2.2.1 1).1 ≤ 21) ∧ ((0 : Int) ≤ wr (i4 + 2) ∧ wr (i4 + 2) < ((yK D.2.2.1 1).2 : Int)) ∧ (((V 1 ((wr (i4 + 2)).toNat)) = 0 → RY d 94 0 [vr 405, vi (V 1 ((wr (i4 + 1)).toNat)), vi 0, vr 0] [] V D (yback d 381 2872 [vr 1, vr 70, vr 405, vr 420, vi i4, vi i_0, v6] [] Q)) ∧ ((V 1 ((wr (i4 + 2)).toNat)) ≠ 0 → RY d 94 0 [vr 405, vi (V 1 ((wr (i4 + 1)).toNat)), vi 1, vr 0] [] V D (yback d 381 2872 [vr 1, vr 70, vr 405, vr 420, vi i4, vi i_0, v6] [] Q)))) :
    RY d 381 2846 [vr 1, vr 70, vr 405, vr 420, vi i4, v5, v6] [vi i_0] V D Q := yat (c := xk_381) (hd := [3810023]) (dk := [3812854, 3812860]) (dv := [3812854, 3812860]) (nb := [3812861]) rfl h
set_option maxRecDepth 20000 in
theorem u_381_2872 {d : Nat} {i4 i5 i_0 : Int} {v6 : xV} {V : xF} {D : yD} {Q : xRes → xF → yD → Prop}
    (h : ((yr_8 V D) = i5 → ((i5 ≠ 0 → RY d 381 23 [vr 1, vr 70, vr 405, vr 420, vi (wr (i4 + 6)), vi i5, vi i_0] [] V D Q) ∧ (i5 = 0 → (((xcmp (D.1 420 0) i_0) = 0 → RY d 381 23 [vr 1, vr 70, vr 405, vr 420, vi (wr (i4 + 6)), vi i5, vi i_0] [] V D Q) ∧ ((xcmp (D.1 420 0) i_0) ≠ 0 → Q (.inl (some (vi 0))) V D))))) ∧ ((yr_8 V D) ≠ i5 → Q (.inl (some (vi 0))) V D)) :
    RY d 381 2872 [vr 1, vr 70, vr 405, vr 420, vi i4, vi i5, v6] [vi i_0] V D Q := yat (c := xk_381) (hd := [3810023]) (dk := []) (dv := []) (nb := [3812880, 3812887, 3812897]) rfl h
set_option maxRecDepth 20000 in
theorem u_381_2930 {d : Nat} {i4 i_0 : Int} {v5 v6 : xV} {V : xF} {D : yD} {Q : xRes → xF → yD → Prop}
    (h : (20 ≤ (yK D.2.2.1 1).1 ∧ (yK D.2.2.1 1).1 ≤ 21) ∧ ((0 : Int) ≤ wr (i4 + 1) ∧ wr (i4 + 1) < ((yK D.2.2.1 1).2 : Int)) ∧ (20 ≤ (yK D.2.2.1 1).1 ∧ (yK D.2.2.1 1).1 ≤ 21) ∧ ((0 : Int) ≤ wr (i4 + 2) ∧ wr (i4 + 2) < ((yK D.2.2.1 1).2 : Int)) ∧ (((V 1 ((wr (i4 + 2)).toNat)) = 0 → RY d 96 0 [vr 405, vi (V 1 ((wr (i4 + 1)).toNat)), vi 0, vr 0, vr 0, vr 0] [] V D (yback d 381 2956 [vr 1, vr 70, vr 405, vr 420, vi i4, vi i_0, v6] [] Q)) ∧ ((V 1 ((wr (i4 + 2)).toNat)) ≠ 0 → RY d 96 0 [vr 405, vi (V 1 ((wr (i4 + 1)).toNat)), vi 1, vr 0, vr 0, vr 0] [] V D (yback d 381 2956 [vr 1, vr 70, vr 405, vr 420, vi i4, vi i_0, v6] [] Q)))) :
    RY d 381 2930 [vr 1, vr 70, vr 405, vr 420, vi i4, v5, v6] [vi i_0] V D Q := yat (c := xk_381) (hd := [3810023]) (dk := [3812938, 3812944]) (dv := [3812938, 3812944]) (nb := [3812945]) rfl h
set_option maxRecDepth 20000 in
theorem u_381_2956 {d : Nat} {i4 i5 i_0 : Int} {v6 : xV} {V : xF} {D : yD} {Q : xRes → xF → yD → Prop}
    (h : ((yr_8 V D) = i5 → ((i5 ≠ 0 → RY d 381 23 [vr 1, vr 70, vr 405, vr 420, vi (wr (i4 + 6)), vi i5, vi i_0] [] V D Q) ∧ (i5 = 0 → (((xcmp (D.1 420 0) i_0) = 0 → RY d 381 23 [vr 1, vr 70, vr 405, vr 420, vi (wr (i4 + 6)), vi i5, vi i_0] [] V D Q) ∧ ((xcmp (D.1 420 0) i_0) ≠ 0 → Q (.inl (some (vi 0))) V D))))) ∧ ((yr_8 V D) ≠ i5 → Q (.inl (some (vi 0))) V D)) :
    RY d 381 2956 [vr 1, vr 70, vr 405, vr 420, vi i4, vi i5, v6] [vi i_0] V D Q := yat (c := xk_381) (hd := [3810023]) (dk := []) (dv := []) (nb := [3812964, 3812971, 3812981]) rfl h
set_option maxRecDepth 20000 in
theorem u_381_3014 {d : Nat} {i4 i_0 : Int} {v5 v6 : xV} {V : xF} {D : yD} {Q : xRes → xF → yD → Prop}
    (h : (20 ≤ (yK D.2.2.1 1).1 ∧ (yK D.2.2.1 1).1 ≤ 21) ∧ ((0 : Int) ≤ wr (i4 + 1) ∧ wr (i4 + 1) < ((yK D.2.2.1 1).2 : Int)) ∧ (20 ≤ (yK D.2.2.1 1).1 ∧ (yK D.2.2.1 1).1 ≤ 21) ∧ ((0 : Int) ≤ wr (i4 + 2) ∧ wr (i4 + 2) < ((yK D.2.2.1 1).2 : Int)) ∧ (((V 1 ((wr (i4 + 2)).toNat)) = 0 → RY d 98 0 [vr 405, vi (V 1 ((wr (i4 + 1)).toNat)), vi 0, vr 0, vr 0, vr 0] [] V D (yback d 381 3040 [vr 1, vr 70, vr 405, vr 420, vi i4, vi i_0, v6] [] Q)) ∧ ((V 1 ((wr (i4 + 2)).toNat)) ≠ 0 → RY d 98 0 [vr 405, vi (V 1 ((wr (i4 + 1)).toNat)), vi 1, vr 0, vr 0, vr 0] [] V D (yback d 381 3040 [vr 1, vr 70, vr 405, vr 420, vi i4, vi i_0, v6] [] Q)))) :
    RY d 381 3014 [vr 1, vr 70, vr 405, vr 420, vi i4, v5, v6] [vi i_0] V D Q := yat (c := xk_381) (hd := [3810023]) (dk := [3813022, 3813028]) (dv := [3813022, 3813028]) (nb := [3813029]) rfl h
set_option maxRecDepth 20000 in
theorem u_381_3040 {d : Nat} {i4 i5 i_0 : Int} {v6 : xV} {V : xF} {D : yD} {Q : xRes → xF → yD → Prop}
    (h : ((yr_8 V D) = i5 → ((i5 ≠ 0 → RY d 381 23 [vr 1, vr 70, vr 405, vr 420, vi (wr (i4 + 6)), vi i5, vi i_0] [] V D Q) ∧ (i5 = 0 → (((xcmp (D.1 420 0) i_0) = 0 → RY d 381 23 [vr 1, vr 70, vr 405, vr 420, vi (wr (i4 + 6)), vi i5, vi i_0] [] V D Q) ∧ ((xcmp (D.1 420 0) i_0) ≠ 0 → Q (.inl (some (vi 0))) V D))))) ∧ ((yr_8 V D) ≠ i5 → Q (.inl (some (vi 0))) V D)) :
    RY d 381 3040 [vr 1, vr 70, vr 405, vr 420, vi i4, vi i5, v6] [vi i_0] V D Q := yat (c := xk_381) (hd := [3810023]) (dk := []) (dv := []) (nb := [3813048, 3813055, 3813065]) rfl h
set_option maxRecDepth 20000 in
theorem u_381_3090 {d : Nat} {i4 i_0 : Int} {v5 v6 : xV} {V : xF} {D : yD} {Q : xRes → xF → yD → Prop}
    (h : (20 ≤ (yK D.2.2.1 1).1 ∧ (yK D.2.2.1 1).1 ≤ 21) ∧ ((0 : Int) ≤ wr (i4 + 1) ∧ wr (i4 + 1) < ((yK D.2.2.1 1).2 : Int)) ∧ (20 ≤ (yK D.2.2.1 1).1 ∧ (yK D.2.2.1 1).1 ≤ 21) ∧ ((0 : Int) ≤ wr (i4 + 2) ∧ wr (i4 + 2) < ((yK D.2.2.1 1).2 : Int)) ∧ RY d 100 0 [vr 405, vi (V 1 ((wr (i4 + 1)).toNat)), vi (V 1 ((wr (i4 + 2)).toNat))] [] V D (yback d 381 3108 [vr 1, vr 70, vr 405, vr 420, vi i4, vi i_0, v6] [] Q)) :
    RY d 381 3090 [vr 1, vr 70, vr 405, vr 420, vi i4, v5, v6] [vi i_0] V D Q := yat (c := xk_381) (hd := [3810023]) (dk := [3813098, 3813104]) (dv := [3813098, 3813104]) (nb := []) rfl h
set_option maxRecDepth 20000 in
theorem u_381_3108 {d : Nat} {i4 i5 i_0 : Int} {v6 : xV} {V : xF} {D : yD} {Q : xRes → xF → yD → Prop}
    (h : ((yr_8 V D) = i5 → ((i5 ≠ 0 → RY d 381 23 [vr 1, vr 70, vr 405, vr 420, vi (wr (i4 + 6)), vi i5, vi i_0] [] V D Q) ∧ (i5 = 0 → (((xcmp (D.1 420 0) i_0) = 0 → RY d 381 23 [vr 1, vr 70, vr 405, vr 420, vi (wr (i4 + 6)), vi i5, vi i_0] [] V D Q) ∧ ((xcmp (D.1 420 0) i_0) ≠ 0 → Q (.inl (some (vi 0))) V D))))) ∧ ((yr_8 V D) ≠ i5 → Q (.inl (some (vi 0))) V D)) :
    RY d 381 3108 [vr 1, vr 70, vr 405, vr 420, vi i4, vi i5, v6] [vi i_0] V D Q := yat (c := xk_381) (hd := [3810023]) (dk := []) (dv := []) (nb := [3813116, 3813123, 3813133]) rfl h
set_option maxRecDepth 20000 in
theorem u_381_3170 {d : Nat} {i4 i_0 : Int} {v5 v6 : xV} {V : xF} {D : yD} {Q : xRes → xF → yD → Prop}
    (h : RY d 104 0 [vr 405, vr 0] [] V D (yback d 381 3174 [vr 1, vr 70, vr 405, vr 420, vi i4, v5, v6] [vi i_0] Q)) :
    RY d 381 3170 [vr 1, vr 70, vr 405, vr 420, vi i4, v5, v6] [vi i_0] V D Q := yat (c := xk_381) (hd := [3810023]) (dk := []) (dv := []) (nb := []) rfl h
set_option maxRecDepth 20000 in
theorem u_381_3174 {d : Nat} {i4 i_0 i_1 : Int} {v5 v6 : xV} {V : xF} {D : yD} {Q : xRes → xF → yD → Prop}
    (h : (i_0 = i_1 → RY d 381 23 [vr 1, vr 70, vr 405, vr 420, vi (wr (i4 + 6)), v5, v6] [] V D Q) ∧ (i_0 ≠ i_1 → Q (.inl (some (vi 0))) V D)) :
    RY d 381 3174 [vr 1, vr 70, vr 405, vr 420, vi i4, v5, v6] [vi i_1, vi i_0] V D Q := yat (c := xk_381) (hd := [3810023]) (dk := []) (dv := []) (nb := [3813174]) rfl h
set_option maxRecDepth 20000 in
theorem u_381_3183 {d : Nat} {i4 : Int} {v5 v6 : xV} {V : xF} {D : yD} {Q : xRes → xF → yD → Prop}
    (h : RY d 106 0 [vr 405, vr 0] [] V D (yback d 381 3187 [vr 1, vr 70, vr 405, vr 420, vi i4, v5, v6] [] Q)) :
    RY d 381 3183 [vr 1, vr 70, vr 405, vr 420, vi i4, v5, v6] [] V D Q := yat (c := xk_381) (hd := [3810023]) (dk := []) (dv := []) (nb := []) rfl h
set_option maxRecDepth 20000 in
theorem u_381_3187 {d : Nat} {i4 : Int} {v5 v6 : xV} {V : xF} {D : yD} {Q : xRes → xF → yD → Prop}
    (h : RY d 381 23 [vr 1, vr 70, vr 405, vr 420, vi (wr (i4 + 6)), v5, v6] [] V D Q) :
    RY d 381 3187 [vr 1, vr 70, vr 405, vr 420, vi i4, v5, v6] [] V D Q := yat (c := xk_381) (hd := [3810023]) (dk := []) (dv := []) (nb := []) rfl h
set_option maxRecDepth 20000 in
theorem u_381_3194 {d : Nat} {i4 i_0 : Int} {v5 v6 : xV} {V : xF} {D : yD} {Q : xRes → xF → yD → Prop}
    (h : RY d 108 0 [vr 405, vr 0] [] V D (yback d 381 3198 [vr 1, vr 70, vr 405, vr 420, vi i4, v5, v6] [vi i_0] Q)) :
    RY d 381 3194 [vr 1, vr 70, vr 405, vr 420, vi i4, v5, v6] [vi i_0] V D Q := yat (c := xk_381) (hd := [3810023]) (dk := []) (dv := []) (nb := []) rfl h
set_option maxRecDepth 20000 in
theorem u_381_3198 {d : Nat} {i4 i_0 i_1 : Int} {v5 v6 : xV} {V : xF} {D : yD} {Q : xRes → xF → yD → Prop}
    (h : (i_0 = i_1 → RY d 381 23 [vr 1, vr 70, vr 405, vr 420, vi (wr (i4 + 6)), v5, v6] [] V D Q) ∧ (i_0 ≠ i_1 → Q (.inl (some (vi 0))) V D)) :
    RY d 381 3198 [vr 1, vr 70, vr 405, vr 420, vi i4, v5, v6] [vi i_1, vi i_0] V D Q := yat (c := xk_381) (hd := [3810023]) (dk := []) (dv := []) (nb := [3813198]) rfl h
set_option maxRecDepth 20000 in
theorem u_381_3213 {d : Nat} {i4 i_0 : Int} {v5 v6 : xV} {V : xF} {D : yD} {Q : xRes → xF → yD → Prop}
    (h : (20 ≤ (yK D.2.2.1 1).1 ∧ (yK D.2.2.1 1).1 ≤ 21) ∧ ((0 : Int) ≤ wr (i4 + 1) ∧ wr (i4 + 1) < ((yK D.2.2.1 1).2 : Int)) ∧ RY d 110 0 [vr 405, vi (V 1 ((wr (i4 + 1)).toNat))] [] V D (yback d 381 3223 [vr 1, vr 70, vr 405, vr 420, vi i4, v5, v6] [vi i_0] Q)) :
    RY d 381 3213 [vr 1, vr 70, vr 405, vr 420, vi i4, v5, v6] [vi i_0] V D Q := yat (c := xk_381) (hd := [3810023]) (dk := [3813219]) (dv := [3813219]) (nb := []) rfl h
set_option maxRecDepth 20000 in
theorem u_381_3223 {d : Nat} {i4 i_0 i_1 : Int} {v5 v6 : xV} {V : xF} {D : yD} {Q : xRes → xF → yD → Prop}
    (h : (i_0 = i_1 → RY d 381 23 [vr 1, vr 70, vr 405, vr 420, vi (wr (i4 + 6)), v5, v6] [] V D Q) ∧ (i_0 ≠ i_1 → Q (.inl (some (vi 0))) V D)) :
    RY d 381 3223 [vr 1, vr 70, vr 405, vr 420, vi i4, v5, v6] [vi i_1, vi i_0] V D Q := yat (c := xk_381) (hd := [3810023]) (dk := []) (dv := []) (nb := [3813223]) rfl h
