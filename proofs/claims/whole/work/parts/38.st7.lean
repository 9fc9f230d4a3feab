/-! ===== STRETCHES 7 (printed by wip/whole/ym.py) ===== -/
set_option maxRecDepth 20000 in
theorem u_364_123 {d : Nat} {a0 : Nat} {i1 i3 i4 i5 i6 i7 : Int} {V : xF} {D : yD} {Q : xRes → xF → yD → Prop}
    (h : RY d 364 247 [vr a0, vi i1, vr 394, vi i3, vi 0, vi i5, vi i6, vi i7] [] V D Q) :
    RY d 364 123 [vr a0, vi i1, vr 394, vi i3, vi i4, vi i5, vi i6, vi i7] [] V D Q := yat (c := xk_364) (hd := [3640026, 3640123, 3640146, 3640168, 3640188, 3640247]) (dk := []) (dv := []) (nb := []) rfl h
set_option maxRecDepth 20000 in
theorem u_364_146 {d : Nat} {a0 : Nat} {i1 i3 i4 i5 i6 i7 : Int} {V : xF} {D : yD} {Q : xRes → xF → yD → Prop}
    (h : RY d 364 247 [vr a0, vi i1, vr 394, vi i3, vi 0, vi i5, vi i6, vi i7] [] V D Q) :
    RY d 364 146 [vr a0, vi i1, vr 394, vi i3, vi i4, vi i5, vi i6, vi i7] [] V D Q := yat (c := xk_364) (hd := [3640026, 3640123, 3640146, 3640168, 3640188, 3640247]) (dk := []) (dv := []) (nb := []) rfl h
set_option maxRecDepth 20000 in
theorem u_364_168 {d : Nat} {a0 : Nat} {i1 i3 i4 i5 i6 i7 : Int} {V : xF} {D : yD} {Q : xRes → xF → yD → Prop}
    (h : RY d 364 247 [vr a0, vi i1, vr 394, vi i3, vi i4, vi i5, vi i6, vi i7] [] V D Q) :
    RY d 364 168 [vr a0, vi i1, vr 394, vi i3, vi i4, vi i5, vi i6, vi i7] [] V D Q := yat (c := xk_364) (hd := [3640026, 3640123, 3640146, 3640168, 3640188, 3640247]) (dk := []) (dv := []) (nb := []) rfl h
set_option maxRecDepth 20000 in
theorem u_364_188 {d : Nat} {a0 : Nat} {i1 i3 i4 i5 i6 i7 : Int} {V : xF} {D : yD} {Q : xRes → xF → yD → Prop}
    (h : RY d 364 247 [vr a0, vi i1, vr 394, vi i3, vi i4, vi i5, vi i6, vi i7] [] V D Q) :
    RY d 364 188 [vr a0, vi i1, vr 394, vi i3, vi i4, vi i5, vi i6, vi i7] [] V D Q := yat (c := xk_364) (hd := [3640026, 3640123, 3640146, 3640168, 3640188, 3640247]) (dk := []) (dv := []) (nb := []) rfl h
set_option maxRecDepth 20000 in
theorem u_364_247 {d : Nat} {a0 : Nat} {i1 i3 i4 i5 i6 i7 : Int} {V : xF} {D : yD} {Q : xRes → xF → yD → Prop}
    (h : RY d 364 26 [vr a0, vi i1, vr 394, vi i3, vi i4, vi i5, vi (wr (i6 + 1)), vi i7] [] V D Q) :
    RY d 364 247 [vr a0, vi i1, vr 394, vi i3, vi i4, vi i5, vi i6, vi i7] [] V D Q := yat (c := xk_364) (hd := [3640026, 3640123, 3640146, 3640168, 3640188, 3640247]) (dk := []) (dv := []) (nb := []) rfl h
set_option maxRecDepth 20000 in
theorem u_369_0_92 {d : Nat} {i2 : Int} {V : xF} {D : yD} {Q : xRes → xF → yD → Prop}
    (h : yg_374 V D ∧ (((yr_374 V D) = 4 → RY d 369 15 [vr 247, vr 92, vi i2, vi 0, vr 0] [] V D Q) ∧ ((yr_374 V D) ≠ 4 → Q (.inl (some (vi 0))) V D))) :
    RY d 369 0 [vr 247, vr 92, vi i2, vr 0, vr 0] [] V D Q := yat (c := xk_369) (hd := [3690015]) (dk := []) (dv := []) (nb := [3690008]) rfl h
set_option maxRecDepth 20000 in
theorem u_369_15_92 {d : Nat} {i2 i3 : Int} {v4 : xV} {V : xF} {D : yD} {Q : xRes → xF → yD → Prop}
    (h : ((4 : Int) ≤ i3 → (((0 : Int) ≤ V 76 5 ∧ V 76 5 < (401 : Int)) ∧ (((V 78 ((V 76 5).toNat)) = 3 → Q (.inl (some (vi 1))) V D) ∧ ((V 78 ((V 76 5).toNat)) ≠ 3 → ∀ V1 : xF, V1 = up2 V 76 5 (wr ((V 76 5) + 1)) → Q (.inl (some (vi 1))) V1 D)))) ∧ (i3 < 4 → (yg_375 i3 V D ∧ (((0 : Int) ≤ (xixF V 6 (yr_375 i3 V D) 5 0) → (((0 : Int) ≤ wr ((wr ((4 : Int) * i2)) + i3) ∧ wr ((wr ((4 : Int) * i2)) + i3) < (20 : Int)) ∧ (∀ V2 : xF, V2 = up2 V 95 ((wr ((wr ((4 : Int) * i2)) + i3)).toNat) (xixF V 6 (yr_375 i3 V D) 5 0) → RY d 369 15 [vr 247, vr 92, vi i2, vi (wr (i3 + 1)), vi (xixF V 6 (yr_375 i3 V D) 5 0)] [] V2 D Q))) ∧ ((xixF V 6 (yr_375 i3 V D) 5 0) < 0 → Q (.inl (some (vi 0))) V D))))) :
    RY d 369 15 [vr 247, vr 92, vi i2, vi i3, v4] [] V D Q := yat (c := xk_369) (hd := [3690015]) (dk := []) (dv := [3580008, 3690053]) (nb := [3580010, 3690017, 3690037]) rfl h
set_option maxRecDepth 20000 in
theorem u_370_0 {d : Nat} {V : xF} {D : yD} {Q : xRes → xF → yD → Prop}
    (h : ((0 : Int) ≤ V 76 5 ∧ V 76 5 < (401 : Int)) ∧ (((V 78 ((V 76 5).toNat)) ≠ 2 → Q (.inl (some (vi ((-1))))) V D) ∧ ((V 78 ((V 76 5).toNat)) = 2 → (((0 : Int) ≤ V 76 5 ∧ V 76 5 < (401 : Int)) ∧ ((0 : Int) ≤ V 76 5 ∧ V 76 5 < (401 : Int)) ∧ (((wr ((V 80 ((V 76 5).toNat)) - (V 79 ((V 76 5).toNat)))) ≤ 3 → (((0 : Int) ≤ V 76 5 ∧ V 76 5 < (401 : Int)) ∧ RY d 370 50 [vr 76, vi 0, vi (V 79 ((V 76 5).toNat))] [] V D Q)) ∧ ((3 : Int) < (wr ((V 80 ((V 76 5).toNat)) - (V 79 ((V 76 5).toNat)))) → Q (.inl (some (vi ((-1))))) V D)))))) :
    RY d 370 0 [vr 76, vr 0, vr 0] [] V D Q := yat (c := xk_370) (hd := [3700050]) (dk := []) (dv := [3700008, 3700021, 3700030, 3700048]) (nb := [3700010, 3700033]) rfl h
set_option maxRecDepth 20000 in
theorem u_370_50 {d : Nat} {i1 i2 : Int} {V : xF} {D : yD} {Q : xRes → xF → yD → Prop}
    (h : ((0 : Int) ≤ V 76 5 ∧ V 76 5 < (401 : Int)) ∧ (((V 80 ((V 76 5).toNat)) ≤ i2 → Q (.inl (some (vi i1))) V D) ∧ (i2 < (V 80 ((V 76 5).toNat)) → (((0 : Int) ≤ i2 ∧ i2 < (400 : Int)) ∧ RY d 370 50 [vr 76, vi (wr ((wr ((wr ((10 : Int) * i1)) + (V 77 i2.toNat))) - 48)), vi (wr (i2 + 1))] [] V D Q)))) :
    RY d 370 50 [vr 76, vi i1, vi i2] [] V D Q := yat (c := xk_370) (hd := [3700050]) (dk := []) (dv := [3700059, 3700072]) (nb := [3700060]) rfl h
set_option maxRecDepth 20000 in
theorem u_371_0 {d : Nat} {V : xF} {D : yD} {Q : xRes → xF → yD → Prop}
    (h : ((V 405 12) = ((-1)) → RY (d + 1) 305 0 [vr 405] [] V D (yback (d + 1) 371 14 [vr 405, vr 0, vr 0, vr 0] [] Q)) ∧ ((V 405 12) ≠ ((-1)) → Q (.inl (some (vi 0))) V D)) :
    RY (d + 1) 371 0 [vr 405, vr 0, vr 0, vr 0] [] V D Q := yat (c := xk_371) (hd := []) (dk := []) (dv := []) (nb := [3710005]) rfl h
set_option maxRecDepth 20000 in
theorem u_371_14 {d : Nat} {i_0 : Int} {V : xF} {D : yD} {Q : xRes → xF → yD → Prop}
    (h : RY (d + 1) 302 0 [vr 405, vr 43, vr 0, vr 0] [] V D (yback (d + 1) 371 21 [vr 405, vi i_0, vr 0, vr 0] [] Q)) :
    RY (d + 1) 371 14 [vr 405, vr 0, vr 0, vr 0] [vi i_0] V D Q := yat (c := xk_371) (hd := []) (dk := []) (dv := []) (nb := []) rfl h
set_option maxRecDepth 20000 in
theorem u_371_21 {d : Nat} {i1 i_0 : Int} {V : xF} {D : yD} {Q : xRes → xF → yD → Prop}
    (h : (i_0 ≠ 0 → (((V 405 13) ≠ 6 → ∀ V1 : xF, V1 = up2 V 405 13 (wr ((V 405 13) + 1)) → ((i_0 = 0 → ∀ V2 : xF, V2 = up2 V1 405 11 (wr ((V1 405 11) + 1)) → RY d 304 0 [vr 405, vr 0, vr 0] [] V2 D (yback (d + 1) 371 102 [vr 405, vi i1, vi i_0, vi 0] [] Q)) ∧ (i_0 ≠ 0 → RY d 371 0 [vr 405, vr 0, vr 0, vr 0] [] V1 D (yback (d + 1) 371 76 [vr 405, vi i1, vi i_0, vi 0] [] Q)))) ∧ ((V 405 13) = 6 → (((V 405 12) ≠ ((-1)) → Q (.inl (some (vi 0))) V D) ∧ ((V 405 12) = ((-1)) → ∀ V3 : xF, V3 = up2 V 405 12 i1 → Q (.inl (some (vi 0))) V3 D))))) ∧ (i_0 = 0 → RY (d + 1) 232 0 [vr 405, vi 40] [] V D (yback (d + 1) 371 32 [vr 405, vi i1, vi i_0, vr 0] [] Q))) :
    RY (d + 1) 371 21 [vr 405, vi i1, vr 0, vr 0] [vi i_0] V D Q := yat (c := xk_371) (hd := []) (dk := []) (dv := []) (nb := [2290005, 3710023, 3710046, 3710069]) rfl h
