/-! ===== STRETCHES 5 (printed by wip/whole/ym.py) ===== -/
set_option maxRecDepth 20000 in
theorem u_299_127_92 {d : Nat} {i_0 : Int} {V : xF} {D : yD} {Q : xRes → xF → yD → Prop}
    (h : (i_0 = 0 ∨ i_0 = 1) ∧ Q (.inl (some (vi i_0))) V D) :
    RY d 299 127 [vr 247, vr 92] [vi i_0] V D Q := yat (c := xk_299) (hd := []) (dk := []) (dv := [2990127]) (nb := []) rfl h
set_option maxRecDepth 20000 in
theorem u_300_0 {d : Nat} {i1 : Int} {V : xF} {D : yD} {Q : xRes → xF → yD → Prop}
    (h : yg_357 i1 V D ∧ (((yr_357 i1 V D) ≠ 0 → (((0 : Int) ≤ V 76 5 ∧ V 76 5 < (401 : Int)) ∧ (((V 78 ((V 76 5).toNat)) = 3 → Q (.inl (some (vi 1))) V D) ∧ ((V 78 ((V 76 5).toNat)) ≠ 3 → ∀ V1 : xF, V1 = up2 V 76 5 (wr ((V 76 5) + 1)) → Q (.inl (some (vi 1))) V1 D)))) ∧ ((yr_357 i1 V D) = 0 → Q (.inl (some (vi 0))) V D))) :
    RY d 300 0 [vr 76, vi i1] [] V D Q := yat (c := xk_300) (hd := []) (dk := []) (dv := [3580008]) (nb := [3000005, 3580010]) rfl h
set_option maxRecDepth 20000 in
theorem u_302_0 {d : Nat} {a1 : Nat} {V : xF} {D : yD} {Q : xRes → xF → yD → Prop}
    (h : RY d 228 0 [vr 405] [] V D (yback d 302 4 [vr 405, vr a1, vr 0, vr 0] [] Q)) :
    RY d 302 0 [vr 405, vr a1, vr 0, vr 0] [] V D Q := yat (c := xk_302) (hd := [3020009, 3020055]) (dk := []) (dv := []) (nb := []) rfl h
set_option maxRecDepth 20000 in
theorem u_302_4 {d : Nat} {a1 : Nat} {V : xF} {D : yD} {Q : xRes → xF → yD → Prop}
    (h : RY d 302 9 [vr 405, vr a1, vi (V 405 11), vr 0] [] V D Q) :
    RY d 302 4 [vr 405, vr a1, vr 0, vr 0] [] V D Q := yat (c := xk_302) (hd := [3020009, 3020055]) (dk := []) (dv := []) (nb := []) rfl h
set_option maxRecDepth 20000 in
theorem u_302_9 {d : Nat} {a1 : Nat} {i2 : Int} {V : xF} {D : yD} {Q : xRes → xF → yD → Prop}
    (h : ((V 405 10) ≤ i2 → (a1 ≠ 0 ∧ (yK D.2.2.1 a1).1 = 26 ∧ Nat.ble 1 8 = true ∧ (((wr (i2 - (V 405 11))) = (((yK D.2.2.1 a1).2 : Int)) → RY d 302 55 [vr 405, vr a1, vi i2, vi 0] [] V D Q) ∧ ((wr (i2 - (V 405 11))) ≠ (((yK D.2.2.1 a1).2 : Int)) → Q (.inl (some (vi 0))) V D)))) ∧ (i2 < (V 405 10) → (yg_301 i2 V D ∧ (((yr_124 (yr_301 i2 V D) 97 122 V D) = 0 → (a1 ≠ 0 ∧ (yK D.2.2.1 a1).1 = 26 ∧ Nat.ble 1 8 = true ∧ (((wr (i2 - (V 405 11))) = (((yK D.2.2.1 a1).2 : Int)) → RY d 302 55 [vr 405, vr a1, vi i2, vi 0] [] V D Q) ∧ ((wr (i2 - (V 405 11))) ≠ (((yK D.2.2.1 a1).2 : Int)) → Q (.inl (some (vi 0))) V D)))) ∧ ((yr_124 (yr_301 i2 V D) 97 122 V D) ≠ 0 → RY d 302 9 [vr 405, vr a1, vi (wr (i2 + 1)), vr 0] [] V D Q))))) :
    RY d 302 9 [vr 405, vr a1, vi i2, vr 0] [] V D Q := yat (c := xk_302) (hd := [3020009, 3020055]) (dk := [3020044, 3020045]) (dv := []) (nb := [3020014, 3020029, 3020048]) rfl h
set_option maxRecDepth 20000 in
theorem u_302_55 {d : Nat} {a1 : Nat} {i2 i3 : Int} {V : xF} {D : yD} {Q : xRes → xF → yD → Prop}
    (h : a1 ≠ 0 ∧ (yK D.2.2.1 a1).1 = 26 ∧ Nat.ble 1 8 = true ∧ (((((yK D.2.2.1 a1).2 : Int)) ≤ i3 → ∀ V1 : xF, V1 = up2 V 405 11 i2 → Q (.inl (some (vi 1))) V1 D) ∧ (i3 < (((yK D.2.2.1 a1).2 : Int)) → (yg_301 (wr ((V 405 11) + i3)) V D ∧ a1 ≠ 0 ∧ (yK D.2.2.1 a1).1 = 26 ∧ Nat.ble 1 8 = true ∧ ((0 : Int) ≤ i3 ∧ i3 < ((yK D.2.2.1 a1).2 : Int)) ∧ (((yr_301 (wr ((V 405 11) + i3)) V D) = (V a1 i3.toNat) → RY d 302 55 [vr 405, vr a1, vi i2, vi (wr (i3 + 1))] [] V D Q) ∧ ((yr_301 (wr ((V 405 11) + i3)) V D) ≠ (V a1 i3.toNat) → Q (.inl (some (vi 0))) V D)))))) :
    RY d 302 55 [vr 405, vr a1, vi i2, vi i3] [] V D Q := yat (c := xk_302) (hd := [3020009, 3020055]) (dk := [3020056, 3020057, 3020073, 3020075]) (dv := [3020075]) (nb := [3020060, 3020078]) rfl h
set_option maxRecDepth 20000 in
theorem u_303_0 {d : Nat} {i1 i2 : Int} {V : xF} {D : yD} {Q : xRes → xF → yD → Prop}
    (h : ((V 405 12) = ((-1)) → RY d 305 0 [vr 405] [] V D (yback d 303 14 [vr 405, vi i1, vi i2, vr 0, vr 0] [] Q)) ∧ ((V 405 12) ≠ ((-1)) → Q (.inl (some (vi 0))) V D)) :
    RY d 303 0 [vr 405, vi i1, vi i2, vr 0, vr 0] [] V D Q := yat (c := xk_303) (hd := [3030018, 3030089, 3030119, 3030124]) (dk := []) (dv := []) (nb := [3030005]) rfl h
set_option maxRecDepth 20000 in
theorem u_303_14 {d : Nat} {i1 i2 i_0 : Int} {V : xF} {D : yD} {Q : xRes → xF → yD → Prop}
    (h : RY d 303 18 [vr 405, vi i1, vi i2, vi i_0, vi 0] [] V D Q) :
    RY d 303 14 [vr 405, vi i1, vi i2, vr 0, vr 0] [vi i_0] V D Q := yat (c := xk_303) (hd := [3030018, 3030089, 3030119, 3030124]) (dk := []) (dv := []) (nb := []) rfl h
set_option maxRecDepth 20000 in
theorem u_303_18 {d : Nat} {i1 i2 i3 i4 : Int} {V : xF} {D : yD} {Q : xRes → xF → yD → Prop}
    (h : ((V 405 10) ≤ (V 405 11) → RY d 303 89 [vr 405, vi i1, vi i2, vi i3, vi i4] [] V D Q) ∧ ((V 405 11) < (V 405 10) → (yg_301 (V 405 11) V D ∧ (((yr_124 (yr_301 (V 405 11) V D) 48 57 V D) = 0 → RY d 303 89 [vr 405, vi i1, vi i2, vi i3, vi i4] [] V D Q) ∧ ((yr_124 (yr_301 (V 405 11) V D) 48 57 V D) ≠ 0 → (((3 : Int) < (wr ((V 405 11) - i3)) → RY d 303 89 [vr 405, vi i1, vi i2, vi i3, vi i4] [] V D Q) ∧ ((wr ((V 405 11) - i3)) ≤ 3 → (yg_301 (V 405 11) V D ∧ (∀ V1 : xF, V1 = up2 V 405 11 (wr ((V 405 11) + 1)) → RY d 303 18 [vr 405, vi i1, vi i2, vi i3, vi (wr ((wr ((wr ((10 : Int) * i4)) + (yr_301 (V 405 11) V D))) - 48))] [] V1 D Q))))))))) :
    RY d 303 18 [vr 405, vi i1, vi i2, vi i3, vi i4] [] V D Q := yat (c := xk_303) (hd := [3030018, 3030089, 3030119, 3030124]) (dk := []) (dv := []) (nb := [3030026, 3030044, 3030054]) rfl h
set_option maxRecDepth 20000 in
theorem u_303_89 {d : Nat} {i1 i2 i3 i4 : Int} {V : xF} {D : yD} {Q : xRes → xF → yD → Prop}
    (h : ((V 405 11) = i3 → RY d 303 119 [vr 405, vi i1, vi i2, vi i3, vi i4] [] V D Q) ∧ ((V 405 11) ≠ i3 → (((3 : Int) < (wr ((V 405 11) - i3)) → RY d 303 119 [vr 405, vi i1, vi i2, vi i3, vi i4] [] V D Q) ∧ ((wr ((V 405 11) - i3)) ≤ 3 → ((i4 < i1 → RY d 303 119 [vr 405, vi i1, vi i2, vi i3, vi i4] [] V D Q) ∧ (i1 ≤ i4 → ((i4 ≤ i2 → RY d 303 124 [vr 405, vi i1, vi i2, vi i3, vi i4] [] V D Q) ∧ (i2 < i4 → RY d 303 119 [vr 405, vi i1, vi i2, vi i3, vi i4] [] V D Q)))))))) :
    RY d 303 89 [vr 405, vi i1, vi i2, vi i3, vi i4] [] V D Q := yat (c := xk_303) (hd := [3030018, 3030089, 3030119, 3030124]) (dk := []) (dv := []) (nb := [3030094, 3030104, 3030110, 3030116]) rfl h
set_option maxRecDepth 20000 in
theorem u_303_119 {d : Nat} {i1 i2 i3 i4 : Int} {V : xF} {D : yD} {Q : xRes → xF → yD → Prop}
    (h : ((V 405 12) ≠ ((-1)) → RY d 303 124 [vr 405, vi i1, vi i2, vi i3, vi i4] [] V D Q) ∧ ((V 405 12) = ((-1)) → ∀ V1 : xF, V1 = up2 V 405 12 i3 → RY d 303 124 [vr 405, vi i1, vi i2, vi i3, vi i4] [] V1 D Q)) :
    RY d 303 119 [vr 405, vi i1, vi i2, vi i3, vi i4] [] V D Q := yat (c := xk_303) (hd := [3030018, 3030089, 3030119, 3030124]) (dk := []) (dv := []) (nb := [2290005]) rfl h
set_option maxRecDepth 20000 in
theorem u_303_124 {d : Nat} {i1 i2 i3 i4 : Int} {V : xF} {D : yD} {Q : xRes → xF → yD → Prop}
    (h : Q (.inl (some (vi i4))) V D) :
    RY d 303 124 [vr 405, vi i1, vi i2, vi i3, vi i4] [] V D Q := yat (c := xk_303) (hd := [3030018, 3030089, 3030119, 3030124]) (dk := []) (dv := []) (nb := []) rfl h
set_option maxRecDepth 20000 in
theorem u_304_0 {d : Nat} {V : xF} {D : yD} {Q : xRes → xF → yD → Prop}
    (h : RY d 359 0 [vr 405, vr 0, vr 0] [] V D (yback (d + 1) 304 4 [vr 405, vr 0, vr 0] [] Q)) :
    RY (d + 1) 304 0 [vr 405, vr 0, vr 0] [] V D Q := yat (c := xk_304) (hd := [3040005]) (dk := []) (dv := []) (nb := []) rfl h
set_option maxRecDepth 20000 in
theorem u_304_4 {d : Nat} {i_0 : Int} {V : xF} {D : yD} {Q : xRes → xF → yD → Prop}
    (h : RY (d + 1) 304 5 [vr 405, vi i_0, vr 0] [] V D Q) :
    RY (d + 1) 304 4 [vr 405, vr 0, vr 0] [vi i_0] V D Q := yat (c := xk_304) (hd := [3040005]) (dk := []) (dv := []) (nb := []) rfl h
set_option maxRecDepth 20000 in
theorem u_304_5 {d : Nat} {i1 : Int} {v2 : xV} {V : xF} {D : yD} {Q : xRes → xF → yD → Prop}
    (h : ((V 405 12) ≠ ((-1)) → ((i1 = 0 ∨ i1 = 1) ∧ Q (.inl (some (vi i1))) V D)) ∧ ((V 405 12) = ((-1)) → RY (d + 1) 302 0 [vr 405, vr 55, vr 0, vr 0] [] V D (yback (d + 1) 304 19 [vr 405, vi i1, v2] [] Q))) :
    RY (d + 1) 304 5 [vr 405, vi i1, v2] [] V D Q := yat (c := xk_304) (hd := [3040005]) (dk := []) (dv := [3040045]) (nb := [3040010]) rfl h
set_option maxRecDepth 20000 in
theorem u_304_19 {d : Nat} {i1 i_0 : Int} {v2 : xV} {V : xF} {D : yD} {Q : xRes → xF → yD → Prop}
    (h : (i_0 = 0 → ((i1 = 0 ∨ i1 = 1) ∧ Q (.inl (some (vi i1))) V D)) ∧ (i_0 ≠ 0 → RY d 359 0 [vr 405, vr 0, vr 0] [] V D (yback (d + 1) 304 26 [vr 405, vi i1, v2] [] Q))) :
    RY (d + 1) 304 19 [vr 405, vi i1, v2] [vi i_0] V D Q := yat (c := xk_304) (hd := [3040005]) (dk := []) (dv := [3040045]) (nb := [3040019]) rfl h
set_option maxRecDepth 20000 in
theorem u_304_26 {d : Nat} {i1 i_0 : Int} {v2 : xV} {V : xF} {D : yD} {Q : xRes → xF → yD → Prop}
    (h : (i1 ≠ 0 → RY (d + 1) 304 5 [vr 405, vi 1, vi i_0] [] V D Q) ∧ (i1 = 0 → ((i_0 = 0 → RY (d + 1) 304 5 [vr 405, vi 0, vi i_0] [] V D Q) ∧ (i_0 ≠ 0 → RY (d + 1) 304 5 [vr 405, vi 1, vi i_0] [] V D Q)))) :
    RY (d + 1) 304 26 [vr 405, vi i1, v2] [vi i_0] V D Q := yat (c := xk_304) (hd := [3040005]) (dk := []) (dv := []) (nb := [3040028, 3040032]) rfl h
set_option maxRecDepth 20000 in
theorem u_305_0 {d : Nat} {V : xF} {D : yD} {Q : xRes → xF → yD → Prop}
    (h : RY d 228 0 [vr 405] [] V D (yback d 305 4 [vr 405] [] Q)) :
    RY d 305 0 [vr 405] [] V D Q := yat (c := xk_305) (hd := []) (dk := []) (dv := []) (nb := []) rfl h
set_option maxRecDepth 20000 in
theorem u_305_4 {d : Nat} {V : xF} {D : yD} {Q : xRes → xF → yD → Prop}
    (h : Q (.inl (some (vi (V 405 11)))) V D) :
    RY d 305 4 [vr 405] [] V D Q := yat (c := xk_305) (hd := []) (dk := []) (dv := []) (nb := []) rfl h
set_option maxRecDepth 20000 in
theorem u_306_0 {d : Nat} {i1 : Int} {V : xF} {D : yD} {Q : xRes → xF → yD → Prop}
    (h : ((V 406 3) ≠ 5 → RY d 303 0 [vr 405, vi 2, vi 12, vr 0, vr 0] [] V D (yback d 306 22 [vr 405, vi i1, vr 0, vr 0, vr 0, vr 0, vr 0, vr 0] [] Q)) ∧ ((V 406 3) = 5 → (((V 405 12) ≠ ((-1)) → RY d 303 0 [vr 405, vi 2, vi 12, vr 0, vr 0] [] V D (yback d 306 22 [vr 405, vi i1, vr 0, vr 0, vr 0, vr 0, vr 0, vr 0] [] Q)) ∧ ((V 405 12) = ((-1)) → ∀ V1 : xF, V1 = up2 V 405 12 i1 → RY d 303 0 [vr 405, vi 2, vi 12, vr 0, vr 0] [] V1 D (yback d 306 22 [vr 405, vi i1, vr 0, vr 0, vr 0, vr 0, vr 0, vr 0] [] Q))))) :
    RY d 306 0 [vr 405, vi i1, vr 0, vr 0, vr 0, vr 0, vr 0, vr 0] [] V D Q := yat (c := xk_306) (hd := [3060139, 3060187]) (dk := []) (dv := []) (nb := [2290005, 3060007]) rfl h
set_option maxRecDepth 20000 in
theorem u_306_22 {d : Nat} {i1 i_0 : Int} {V : xF} {D : yD} {Q : xRes → xF → yD → Prop}
    (h : RY d 360 0 [vr 405, vr 56, vr 0] [] V D (yback d 306 29 [vr 405, vi i1, vi i_0, vr 0, vr 0, vr 0, vr 0, vr 0] [] Q)) :
    RY d 306 22 [vr 405, vi i1, vr 0, vr 0, vr 0, vr 0, vr 0, vr 0] [vi i_0] V D Q := yat (c := xk_306) (hd := [3060139, 3060187]) (dk := []) (dv := []) (nb := []) rfl h
set_option maxRecDepth 20000 in
theorem u_306_29 {d : Nat} {i1 i2 i_0 : Int} {V : xF} {D : yD} {Q : xRes → xF → yD → Prop}
    (h : (i_0 = 0 → RY d 360 0 [vr 405, vr 57, vr 0] [] V D (yback d 306 50 [vr 405, vi i1, vi i2, vi 0, vr 0, vr 0, vr 0, vr 0] [] Q)) ∧ (i_0 ≠ 0 → RY d 303 0 [vr 405, vi 2, vi 12, vr 0, vr 0] [] V D (yback d 306 39 [vr 405, vi i1, vi i2, vr 0, vr 0, vr 0, vr 0, vr 0] [] Q))) :
    RY d 306 29 [vr 405, vi i1, vi i2, vr 0, vr 0, vr 0, vr 0, vr 0] [vi i_0] V D Q := yat (c := xk_306) (hd := [3060139, 3060187]) (dk := []) (dv := []) (nb := [3060029]) rfl h
set_option maxRecDepth 20000 in
theorem u_306_39 {d : Nat} {i1 i2 i_0 : Int} {V : xF} {D : yD} {Q : xRes → xF → yD → Prop}
    (h : RY d 360 0 [vr 405, vr 57, vr 0] [] V D (yback d 306 50 [vr 405, vi i1, vi i2, vi i_0, vr 0, vr 0, vr 0, vr 0] [] Q)) :
    RY d 306 39 [vr 405, vi i1, vi i2, vr 0, vr 0, vr 0, vr 0, vr 0] [vi i_0] V D Q := yat (c := xk_306) (hd := [3060139, 3060187]) (dk := []) (dv := []) (nb := []) rfl h
set_option maxRecDepth 20000 in
theorem u_306_50 {d : Nat} {i1 i2 i3 i_0 : Int} {V : xF} {D : yD} {Q : xRes → xF → yD → Prop}
    (h : (i_0 = 0 → (((V 405 12) ≠ ((-1)) → (((V 405 12) = ((-1)) → (((0 : Int) ≤ wr ((wr ((16 : Int) + (wr ((7 : Int) * (V 406 3))))) + 0) ∧ wr ((wr ((16 : Int) + (wr ((7 : Int) * (V 406 3))))) + 0) < (731 : Int)) ∧ (∀ V1 : xF, V1 = up2 V 406 ((wr ((wr ((16 : Int) + (wr ((7 : Int) * (V 406 3))))) + 0)).toNat) i2 → (((0 : Int) ≤ wr ((wr ((16 : Int) + (wr ((7 : Int) * (V 406 3))))) + 1) ∧ wr ((wr ((16 : Int) + (wr ((7 : Int) * (V 406 3))))) + 1) < (731 : Int)) ∧ (∀ V2 : xF, V2 = up2 V1 406 ((wr ((wr ((16 : Int) + (wr ((7 : Int) * (V 406 3))))) + 1)).toNat) i3 → RY d 306 139 [vr 405, vi i1, vi i2, vi i3, vi 0, vi 0, vi (wr ((16 : Int) + (wr ((7 : Int) * (V 406 3))))), vi 3] [] V2 D Q))))) ∧ ((V 405 12) ≠ ((-1)) → Q (.inl none) V D))) ∧ ((V 405 12) = ((-1)) → RY d 302 0 [vr 405, vr 50, vr 0, vr 0] [] V D (yback d 306 77 [vr 405, vi i1, vi i2, vi i3, vi 0, vr 0, vr 0, vr 0] [] Q)))) ∧ (i_0 ≠ 0 → RY d 361 0 [vr 405, vr 0, vr 0, vr 0, vr 0, vr 0, vr 0] [] V D (yback d 306 57 [vr 405, vi i1, vi i2, vi i3, vr 0, vr 0, vr 0, vr 0] [] Q))) :
    RY d 306 50 [vr 405, vi i1, vi i2, vi i3, vr 0, vr 0, vr 0, vr 0] [vi i_0] V D Q := yat (c := xk_306) (hd := [3060139, 3060187]) (dk := []) (dv := [3060125, 3060135]) (nb := [3060050, 3060068, 3060098]) rfl h
set_option maxRecDepth 20000 in
theorem u_306_57 {d : Nat} {i1 i2 i3 i_0 : Int} {V : xF} {D : yD} {Q : xRes → xF → yD → Prop}
    (h : ((V 405 12) ≠ ((-1)) → (((V 405 12) = ((-1)) → (((0 : Int) ≤ wr ((wr ((16 : Int) + (wr ((7 : Int) * (V 406 3))))) + 0) ∧ wr ((wr ((16 : Int) + (wr ((7 : Int) * (V 406 3))))) + 0) < (731 : Int)) ∧ (∀ V1 : xF, V1 = up2 V 406 ((wr ((wr ((16 : Int) + (wr ((7 : Int) * (V 406 3))))) + 0)).toNat) i2 → (((0 : Int) ≤ wr ((wr ((16 : Int) + (wr ((7 : Int) * (V 406 3))))) + 1) ∧ wr ((wr ((16 : Int) + (wr ((7 : Int) * (V 406 3))))) + 1) < (731 : Int)) ∧ (∀ V2 : xF, V2 = up2 V1 406 ((wr ((wr ((16 : Int) + (wr ((7 : Int) * (V 406 3))))) + 1)).toNat) i3 → RY d 306 139 [vr 405, vi i1, vi i2, vi i3, vi i_0, vi 0, vi (wr ((16 : Int) + (wr ((7 : Int) * (V 406 3))))), vi 3] [] V2 D Q))))) ∧ ((V 405 12) ≠ ((-1)) → Q (.inl none) V D))) ∧ ((V 405 12) = ((-1)) → RY d 302 0 [vr 405, vr 50, vr 0, vr 0] [] V D (yback d 306 77 [vr 405, vi i1, vi i2, vi i3, vi i_0, vr 0, vr 0, vr 0] [] Q))) :
    RY d 306 57 [vr 405, vi i1, vi i2, vi i3, vr 0, vr 0, vr 0, vr 0] [vi i_0] V D Q := yat (c := xk_306) (hd := [3060139, 3060187]) (dk := []) (dv := [3060125, 3060135]) (nb := [3060068, 3060098]) rfl h
set_option maxRecDepth 20000 in
theorem u_306_77 {d : Nat} {i1 i2 i3 i4 i_0 : Int} {V : xF} {D : yD} {Q : xRes → xF → yD → Prop}
    (h : (i_0 = 0 → (((V 405 12) = ((-1)) → (((0 : Int) ≤ wr ((wr ((16 : Int) + (wr ((7 : Int) * (V 406 3))))) + 0) ∧ wr ((wr ((16 : Int) + (wr ((7 : Int) * (V 406 3))))) + 0) < (731 : Int)) ∧ (∀ V1 : xF, V1 = up2 V 406 ((wr ((wr ((16 : Int) + (wr ((7 : Int) * (V 406 3))))) + 0)).toNat) i2 → (((0 : Int) ≤ wr ((wr ((16 : Int) + (wr ((7 : Int) * (V 406 3))))) + 1) ∧ wr ((wr ((16 : Int) + (wr ((7 : Int) * (V 406 3))))) + 1) < (731 : Int)) ∧ (∀ V2 : xF, V2 = up2 V1 406 ((wr ((wr ((16 : Int) + (wr ((7 : Int) * (V 406 3))))) + 1)).toNat) i3 → RY d 306 139 [vr 405, vi i1, vi i2, vi i3, vi i4, vi 0, vi (wr ((16 : Int) + (wr ((7 : Int) * (V 406 3))))), vi 3] [] V2 D Q))))) ∧ ((V 405 12) ≠ ((-1)) → Q (.inl none) V D))) ∧ (i_0 ≠ 0 → RY d 303 0 [vr 405, vi 0, vi 99, vr 0, vr 0] [] V D (yback d 306 87 [vr 405, vi i1, vi i2, vi i3, vi i4, vr 0, vr 0, vr 0] [] Q))) :
    RY d 306 77 [vr 405, vi i1, vi i2, vi i3, vi i4, vr 0, vr 0, vr 0] [vi i_0] V D Q := yat (c := xk_306) (hd := [3060139, 3060187]) (dk := []) (dv := [3060125, 3060135]) (nb := [3060077, 3060098]) rfl h
set_option maxRecDepth 20000 in
theorem u_306_87 {d : Nat} {i1 i2 i3 i4 i_0 : Int} {V : xF} {D : yD} {Q : xRes → xF → yD → Prop}
    (h : ((V 405 12) = ((-1)) → (((0 : Int) ≤ wr ((wr ((16 : Int) + (wr ((7 : Int) * (V 406 3))))) + 0) ∧ wr ((wr ((16 : Int) + (wr ((7 : Int) * (V 406 3))))) + 0) < (731 : Int)) ∧ (∀ V1 : xF, V1 = up2 V 406 ((wr ((wr ((16 : Int) + (wr ((7 : Int) * (V 406 3))))) + 0)).toNat) i2 → (((0 : Int) ≤ wr ((wr ((16 : Int) + (wr ((7 : Int) * (V 406 3))))) + 1) ∧ wr ((wr ((16 : Int) + (wr ((7 : Int) * (V 406 3))))) + 1) < (731 : Int)) ∧ (∀ V2 : xF, V2 = up2 V1 406 ((wr ((wr ((16 : Int) + (wr ((7 : Int) * (V 406 3))))) + 1)).toNat) i3 → RY d 306 139 [vr 405, vi i1, vi i2, vi i3, vi i4, vi i_0, vi (wr ((16 : Int) + (wr ((7 : Int) * (V 406 3))))), vi 3] [] V2 D Q))))) ∧ ((V 405 12) ≠ ((-1)) → Q (.inl none) V D)) :
    RY d 306 87 [vr 405, vi i1, vi i2, vi i3, vi i4, vr 0, vr 0, vr 0] [vi i_0] V D Q := yat (c := xk_306) (hd := [3060139, 3060187]) (dk := []) (dv := [3060125, 3060135]) (nb := [3060098]) rfl h
set_option maxRecDepth 20000 in
theorem u_306_139 {d : Nat} {i1 i2 i3 i4 i5 i6 i7 : Int} {V : xF} {D : yD} {Q : xRes → xF → yD → Prop}
    (h : (i7 < 0 → (((0 : Int) ≤ wr (i6 + 6) ∧ wr (i6 + 6) < (731 : Int)) ∧ (∀ V1 : xF, V1 = up2 V 406 ((wr (i6 + 6)).toNat) i5 → RY d 306 187 [vr 405, vi i1, vi i2, vi i3, vi i4, vi i5, vi i6, vi 0] [] V1 D Q))) ∧ ((0 : Int) ≤ i7 → (((0 : Int) ≤ wr ((wr (i6 + 2)) + i7) ∧ wr ((wr (i6 + 2)) + i7) < (731 : Int)) ∧ (∀ V2 : xF, V2 = up2 V 406 ((wr ((wr (i6 + 2)) + i7)).toNat) (i4.tmod 5) → RY d 306 139 [vr 405, vi i1, vi i2, vi i3, vi (wr (i4.tdiv 5)), vi i5, vi i6, vi (wr (i7 + (-1)))] [] V2 D Q)))) :
    RY d 306 139 [vr 405, vi i1, vi i2, vi i3, vi i4, vi i5, vi i6, vi i7] [] V D Q := yat (c := xk_306) (hd := [3060139, 3060187]) (dk := []) (dv := [3060159, 3060183]) (nb := [3060141]) rfl h
set_option maxRecDepth 20000 in
theorem u_306_187 {d : Nat} {i1 i2 i3 i4 i5 i6 i7 : Int} {V : xF} {D : yD} {Q : xRes → xF → yD → Prop}
    (h : ((5 : Int) ≤ i7 → ∀ V1 : xF, V1 = up2 V 406 3 (wr ((V 406 3) + 1)) → Q (.inl none) V1 D) ∧ (i7 < 5 → (((0 : Int) ≤ wr ((wr ((66 : Int) + (wr ((5 : Int) * (V 406 3))))) + i7) ∧ wr ((wr ((66 : Int) + (wr ((5 : Int) * (V 406 3))))) + i7) < (731 : Int)) ∧ (∀ V2 : xF, V2 = up2 V 406 ((wr ((wr ((66 : Int) + (wr ((5 : Int) * (V 406 3))))) + i7)).toNat) 0 → (((0 : Int) ≤ wr ((wr ((66 : Int) + (wr ((5 : Int) * i7)))) + (V 406 3)) ∧ wr ((wr ((66 : Int) + (wr ((5 : Int) * i7)))) + (V 406 3)) < (731 : Int)) ∧ (∀ V3 : xF, V3 = up2 V2 406 ((wr ((wr ((66 : Int) + (wr ((5 : Int) * i7)))) + (V 406 3))).toNat) 0 → RY d 306 187 [vr 405, vi i1, vi i2, vi i3, vi i4, vi i5, vi i6, vi (wr (i7 + 1))] [] V3 D Q)))))) :
    RY d 306 187 [vr 405, vi i1, vi i2, vi i3, vi i4, vi i5, vi i6, vi i7] [] V D Q := yat (c := xk_306) (hd := [3060139, 3060187]) (dk := []) (dv := [1720013, 1720027]) (nb := [3060190]) rfl h
set_option maxRecDepth 20000 in
theorem u_307_0 {d : Nat} {i1 : Int} {V : xF} {D : yD} {Q : xRes → xF → yD → Prop}
    (h : ((V 406 4) ≠ 5 → RY d 360 0 [vr 405, vr 58, vr 0] [] V D (yback d 307 21 [vr 405, vi i1, vr 0, vr 0, vr 0, vr 0] [] Q)) ∧ ((V 406 4) = 5 → (((V 405 12) ≠ ((-1)) → RY d 360 0 [vr 405, vr 58, vr 0] [] V D (yback d 307 21 [vr 405, vi i1, vr 0, vr 0, vr 0, vr 0] [] Q)) ∧ ((V 405 12) = ((-1)) → ∀ V1 : xF, V1 = up2 V 405 12 i1 → RY d 360 0 [vr 405, vr 58, vr 0] [] V1 D (yback d 307 21 [vr 405, vi i1, vr 0, vr 0, vr 0, vr 0] [] Q))))) :
    RY d 307 0 [vr 405, vi i1, vr 0, vr 0, vr 0, vr 0] [] V D Q := yat (c := xk_307) (hd := []) (dk := []) (dv := []) (nb := [2290005, 3070007]) rfl h
set_option maxRecDepth 20000 in
theorem u_307_21 {d : Nat} {i1 i_0 : Int} {V : xF} {D : yD} {Q : xRes → xF → yD → Prop}
    (h : (i_0 = 0 → RY d 360 0 [vr 405, vr 59, vr 0] [] V D (yback d 307 42 [vr 405, vi i1, vi 0, vr 0, vr 0, vr 0] [] Q)) ∧ (i_0 ≠ 0 → RY d 303 0 [vr 405, vi 0, vi 99, vr 0, vr 0] [] V D (yback d 307 31 [vr 405, vi i1, vr 0, vr 0, vr 0, vr 0] [] Q))) :
    RY d 307 21 [vr 405, vi i1, vr 0, vr 0, vr 0, vr 0] [vi i_0] V D Q := yat (c := xk_307) (hd := []) (dk := []) (dv := []) (nb := [3070021]) rfl h
set_option maxRecDepth 20000 in
theorem u_307_31 {d : Nat} {i1 i_0 : Int} {V : xF} {D : yD} {Q : xRes → xF → yD → Prop}
    (h : RY d 360 0 [vr 405, vr 59, vr 0] [] V D (yback d 307 42 [vr 405, vi i1, vi i_0, vr 0, vr 0, vr 0] [] Q)) :
    RY d 307 31 [vr 405, vi i1, vr 0, vr 0, vr 0, vr 0] [vi i_0] V D Q := yat (c := xk_307) (hd := []) (dk := []) (dv := []) (nb := []) rfl h
set_option maxRecDepth 20000 in
theorem u_307_42 {d : Nat} {i1 i2 i_0 : Int} {V : xF} {D : yD} {Q : xRes → xF → yD → Prop}
    (h : (i_0 = 0 → (((V 405 12) ≠ ((-1)) → (((V 405 12) = ((-1)) → (((0 : Int) ≤ wr ((wr ((51 : Int) + (wr ((3 : Int) * (V 406 4))))) + 0) ∧ wr ((wr ((51 : Int) + (wr ((3 : Int) * (V 406 4))))) + 0) < (731 : Int)) ∧ (∀ V1 : xF, V1 = up2 V 406 ((wr ((wr ((51 : Int) + (wr ((3 : Int) * (V 406 4))))) + 0)).toNat) i2 → (((0 : Int) ≤ wr ((wr ((51 : Int) + (wr ((3 : Int) * (V 406 4))))) + 1) ∧ wr ((wr ((51 : Int) + (wr ((3 : Int) * (V 406 4))))) + 1) < (731 : Int)) ∧ (∀ V2 : xF, V2 = up2 V1 406 ((wr ((wr ((51 : Int) + (wr ((3 : Int) * (V 406 4))))) + 1)).toNat) 0 → (((0 : Int) ≤ wr ((wr ((51 : Int) + (wr ((3 : Int) * (V 406 4))))) + 2) ∧ wr ((wr ((51 : Int) + (wr ((3 : Int) * (V 406 4))))) + 2) < (731 : Int)) ∧ (∀ V3 : xF, V3 = up2 V2 406 ((wr ((wr ((51 : Int) + (wr ((3 : Int) * (V 406 4))))) + 2)).toNat) ((-1)) → ∀ V4 : xF, V4 = up2 V3 406 4 (wr ((V3 406 4) + 1)) → Q (.inl none) V4 D))))))) ∧ ((V 405 12) ≠ ((-1)) → Q (.inl none) V D))) ∧ ((V 405 12) = ((-1)) → RY d 302 0 [vr 405, vr 60, vr 0, vr 0] [] V D (yback d 307 74 [vr 405, vi i1, vi i2, vi 0, vi ((-1)), vr 0] [] Q)))) ∧ (i_0 ≠ 0 → RY d 303 0 [vr 405, vi 0, vi 9, vr 0, vr 0] [] V D (yback d 307 52 [vr 405, vi i1, vi i2, vr 0, vr 0, vr 0] [] Q))) :
    RY d 307 42 [vr 405, vi i1, vi i2, vr 0, vr 0, vr 0] [vi i_0] V D Q := yat (c := xk_307) (hd := []) (dk := []) (dv := [3070153, 3070163, 3070174]) (nb := [3070042, 3070065, 3070127]) rfl h
set_option maxRecDepth 20000 in
theorem u_307_52 {d : Nat} {i1 i2 i_0 : Int} {V : xF} {D : yD} {Q : xRes → xF → yD → Prop}
    (h : ((V 405 12) ≠ ((-1)) → (((V 405 12) = ((-1)) → (((0 : Int) ≤ wr ((wr ((51 : Int) + (wr ((3 : Int) * (V 406 4))))) + 0) ∧ wr ((wr ((51 : Int) + (wr ((3 : Int) * (V 406 4))))) + 0) < (731 : Int)) ∧ (∀ V1 : xF, V1 = up2 V 406 ((wr ((wr ((51 : Int) + (wr ((3 : Int) * (V 406 4))))) + 0)).toNat) i2 → (((0 : Int) ≤ wr ((wr ((51 : Int) + (wr ((3 : Int) * (V 406 4))))) + 1) ∧ wr ((wr ((51 : Int) + (wr ((3 : Int) * (V 406 4))))) + 1) < (731 : Int)) ∧ (∀ V2 : xF, V2 = up2 V1 406 ((wr ((wr ((51 : Int) + (wr ((3 : Int) * (V 406 4))))) + 1)).toNat) i_0 → (((0 : Int) ≤ wr ((wr ((51 : Int) + (wr ((3 : Int) * (V 406 4))))) + 2) ∧ wr ((wr ((51 : Int) + (wr ((3 : Int) * (V 406 4))))) + 2) < (731 : Int)) ∧ (∀ V3 : xF, V3 = up2 V2 406 ((wr ((wr ((51 : Int) + (wr ((3 : Int) * (V 406 4))))) + 2)).toNat) ((-1)) → ∀ V4 : xF, V4 = up2 V3 406 4 (wr ((V3 406 4) + 1)) → Q (.inl none) V4 D))))))) ∧ ((V 405 12) ≠ ((-1)) → Q (.inl none) V D))) ∧ ((V 405 12) = ((-1)) → RY d 302 0 [vr 405, vr 60, vr 0, vr 0] [] V D (yback d 307 74 [vr 405, vi i1, vi i2, vi i_0, vi ((-1)), vr 0] [] Q))) :
    RY d 307 52 [vr 405, vi i1, vi i2, vr 0, vr 0, vr 0] [vi i_0] V D Q := yat (c := xk_307) (hd := []) (dk := []) (dv := [3070153, 3070163, 3070174]) (nb := [3070065, 3070127]) rfl h
set_option maxRecDepth 20000 in
theorem u_307_74 {d : Nat} {i1 i2 i3 i4 i_0 : Int} {V : xF} {D : yD} {Q : xRes → xF → yD → Prop}
    (h : (i_0 = 0 → (((V 405 12) = ((-1)) → (((0 : Int) ≤ wr ((wr ((51 : Int) + (wr ((3 : Int) * (V 406 4))))) + 0) ∧ wr ((wr ((51 : Int) + (wr ((3 : Int) * (V 406 4))))) + 0) < (731 : Int)) ∧ (∀ V1 : xF, V1 = up2 V 406 ((wr ((wr ((51 : Int) + (wr ((3 : Int) * (V 406 4))))) + 0)).toNat) i2 → (((0 : Int) ≤ wr ((wr ((51 : Int) + (wr ((3 : Int) * (V 406 4))))) + 1) ∧ wr ((wr ((51 : Int) + (wr ((3 : Int) * (V 406 4))))) + 1) < (731 : Int)) ∧ (∀ V2 : xF, V2 = up2 V1 406 ((wr ((wr ((51 : Int) + (wr ((3 : Int) * (V 406 4))))) + 1)).toNat) i3 → (((0 : Int) ≤ wr ((wr ((51 : Int) + (wr ((3 : Int) * (V 406 4))))) + 2) ∧ wr ((wr ((51 : Int) + (wr ((3 : Int) * (V 406 4))))) + 2) < (731 : Int)) ∧ (∀ V3 : xF, V3 = up2 V2 406 ((wr ((wr ((51 : Int) + (wr ((3 : Int) * (V 406 4))))) + 2)).toNat) i4 → ∀ V4 : xF, V4 = up2 V3 406 4 (wr ((V3 406 4) + 1)) → Q (.inl none) V4 D))))))) ∧ ((V 405 12) ≠ ((-1)) → Q (.inl none) V D))) ∧ (i_0 ≠ 0 → RY d 305 0 [vr 405] [] V D (yback d 307 81 [vr 405, vi i1, vi i2, vi i3, vi i4, vr 0] [] Q))) :
    RY d 307 74 [vr 405, vi i1, vi i2, vi i3, vi i4, vr 0] [vi i_0] V D Q := yat (c := xk_307) (hd := []) (dk := []) (dv := [3070153, 3070163, 3070174]) (nb := [3070074, 3070127]) rfl h
set_option maxRecDepth 20000 in
theorem u_307_81 {d : Nat} {i1 i2 i3 i4 i_0 : Int} {V : xF} {D : yD} {Q : xRes → xF → yD → Prop}
    (h : RY d 303 0 [vr 405, vi 0, vi (wr ((V 406 3) - 1)), vr 0, vr 0] [] V D (yback d 307 96 [vr 405, vi i1, vi i2, vi i3, vi i4, vi i_0] [] Q)) :
    RY d 307 81 [vr 405, vi i1, vi i2, vi i3, vi i4, vr 0] [vi i_0] V D Q := yat (c := xk_307) (hd := []) (dk := []) (dv := []) (nb := []) rfl h
set_option maxRecDepth 20000 in
theorem u_307_96 {d : Nat} {i1 i2 i3 i4 i5 i_0 : Int} {V : xF} {D : yD} {Q : xRes → xF → yD → Prop}
    (h : ((V 405 12) ≠ ((-1)) → (((V 405 12) = ((-1)) → (((0 : Int) ≤ wr ((wr ((51 : Int) + (wr ((3 : Int) * (V 406 4))))) + 0) ∧ wr ((wr ((51 : Int) + (wr ((3 : Int) * (V 406 4))))) + 0) < (731 : Int)) ∧ (∀ V1 : xF, V1 = up2 V 406 ((wr ((wr ((51 : Int) + (wr ((3 : Int) * (V 406 4))))) + 0)).toNat) i2 → (((0 : Int) ≤ wr ((wr ((51 : Int) + (wr ((3 : Int) * (V 406 4))))) + 1) ∧ wr ((wr ((51 : Int) + (wr ((3 : Int) * (V 406 4))))) + 1) < (731 : Int)) ∧ (∀ V2 : xF, V2 = up2 V1 406 ((wr ((wr ((51 : Int) + (wr ((3 : Int) * (V 406 4))))) + 1)).toNat) i3 → (((0 : Int) ≤ wr ((wr ((51 : Int) + (wr ((3 : Int) * (V 406 4))))) + 2) ∧ wr ((wr ((51 : Int) + (wr ((3 : Int) * (V 406 4))))) + 2) < (731 : Int)) ∧ (∀ V3 : xF, V3 = up2 V2 406 ((wr ((wr ((51 : Int) + (wr ((3 : Int) * (V 406 4))))) + 2)).toNat) i_0 → ∀ V4 : xF, V4 = up2 V3 406 4 (wr ((V3 406 4) + 1)) → Q (.inl none) V4 D))))))) ∧ ((V 405 12) ≠ ((-1)) → Q (.inl none) V D))) ∧ ((V 405 12) = ((-1)) → RY d 134 0 [vr 405, vi i_0, vr 0, vr 0] [] V D (yback d 307 112 [vr 405, vi i1, vi i2, vi i3, vi i_0, vi i5] [] Q))) :
    RY d 307 96 [vr 405, vi i1, vi i2, vi i3, vi i4, vi i5] [vi i_0] V D Q := yat (c := xk_307) (hd := []) (dk := []) (dv := [3070153, 3070163, 3070174]) (nb := [3070103, 3070127]) rfl h
set_option maxRecDepth 20000 in
theorem u_307_112 {d : Nat} {i1 i2 i3 i4 i5 i_0 : Int} {V : xF} {D : yD} {Q : xRes → xF → yD → Prop}
    (h : (i_0 = ((-1)) → (((V 405 12) = ((-1)) → (((0 : Int) ≤ wr ((wr ((51 : Int) + (wr ((3 : Int) * (V 406 4))))) + 0) ∧ wr ((wr ((51 : Int) + (wr ((3 : Int) * (V 406 4))))) + 0) < (731 : Int)) ∧ (∀ V1 : xF, V1 = up2 V 406 ((wr ((wr ((51 : Int) + (wr ((3 : Int) * (V 406 4))))) + 0)).toNat) i2 → (((0 : Int) ≤ wr ((wr ((51 : Int) + (wr ((3 : Int) * (V 406 4))))) + 1) ∧ wr ((wr ((51 : Int) + (wr ((3 : Int) * (V 406 4))))) + 1) < (731 : Int)) ∧ (∀ V2 : xF, V2 = up2 V1 406 ((wr ((wr ((51 : Int) + (wr ((3 : Int) * (V 406 4))))) + 1)).toNat) i3 → (((0 : Int) ≤ wr ((wr ((51 : Int) + (wr ((3 : Int) * (V 406 4))))) + 2) ∧ wr ((wr ((51 : Int) + (wr ((3 : Int) * (V 406 4))))) + 2) < (731 : Int)) ∧ (∀ V3 : xF, V3 = up2 V2 406 ((wr ((wr ((51 : Int) + (wr ((3 : Int) * (V 406 4))))) + 2)).toNat) i4 → ∀ V4 : xF, V4 = up2 V3 406 4 (wr ((V3 406 4) + 1)) → Q (.inl none) V4 D))))))) ∧ ((V 405 12) ≠ ((-1)) → Q (.inl none) V D))) ∧ (i_0 ≠ ((-1)) → (((V 405 12) ≠ ((-1)) → (((V 405 12) = ((-1)) → (((0 : Int) ≤ wr ((wr ((51 : Int) + (wr ((3 : Int) * (V 406 4))))) + 0) ∧ wr ((wr ((51 : Int) + (wr ((3 : Int) * (V 406 4))))) + 0) < (731 : Int)) ∧ (∀ V5 : xF, V5 = up2 V 406 ((wr ((wr ((51 : Int) + (wr ((3 : Int) * (V 406 4))))) + 0)).toNat) i2 → (((0 : Int) ≤ wr ((wr ((51 : Int) + (wr ((3 : Int) * (V 406 4))))) + 1) ∧ wr ((wr ((51 : Int) + (wr ((3 : Int) * (V 406 4))))) + 1) < (731 : Int)) ∧ (∀ V6 : xF, V6 = up2 V5 406 ((wr ((wr ((51 : Int) + (wr ((3 : Int) * (V 406 4))))) + 1)).toNat) i3 → (((0 : Int) ≤ wr ((wr ((51 : Int) + (wr ((3 : Int) * (V 406 4))))) + 2) ∧ wr ((wr ((51 : Int) + (wr ((3 : Int) * (V 406 4))))) + 2) < (731 : Int)) ∧ (∀ V7 : xF, V7 = up2 V6 406 ((wr ((wr ((51 : Int) + (wr ((3 : Int) * (V 406 4))))) + 2)).toNat) i4 → ∀ V8 : xF, V8 = up2 V7 406 4 (wr ((V7 406 4) + 1)) → Q (.inl none) V8 D))))))) ∧ ((V 405 12) ≠ ((-1)) → Q (.inl none) V D))) ∧ ((V 405 12) = ((-1)) → ∀ V9 : xF, V9 = up2 V 405 12 i5 → (((V9 405 12) = ((-1)) → (((0 : Int) ≤ wr ((wr ((51 : Int) + (wr ((3 : Int) * (V9 406 4))))) + 0) ∧ wr ((wr ((51 : Int) + (wr ((3 : Int) * (V9 406 4))))) + 0) < (731 : Int)) ∧ (∀ V10 : xF, V10 = up2 V9 406 ((wr ((wr ((51 : Int) + (wr ((3 : Int) * (V9 406 4))))) + 0)).toNat) i2 → (((0 : Int) ≤ wr ((wr ((51 : Int) + (wr ((3 : Int) * (V9 406 4))))) + 1) ∧ wr ((wr ((51 : Int) + (wr ((3 : Int) * (V9 406 4))))) + 1) < (731 : Int)) ∧ (∀ V11 : xF, V11 = up2 V10 406 ((wr ((wr ((51 : Int) + (wr ((3 : Int) * (V9 406 4))))) + 1)).toNat) i3 → (((0 : Int) ≤ wr ((wr ((51 : Int) + (wr ((3 : Int) * (V9 406 4))))) + 2) ∧ wr ((wr ((51 : Int) + (wr ((3 : Int) * (V9 406 4))))) + 2) < (731 : Int)) ∧ (∀ V12 : xF, V12 = up2 V11 406 ((wr ((wr ((51 : Int) + (wr ((3 : Int) * (V9 406 4))))) + 2)).toNat) i4 → ∀ V13 : xF, V13 = up2 V12 406 4 (wr ((V12 406 4) + 1)) → Q (.inl none) V13 D))))))) ∧ ((V9 405 12) ≠ ((-1)) → Q (.inl none) V9 D)))))) :
    RY d 307 112 [vr 405, vi i1, vi i2, vi i3, vi i4, vi i5] [vi i_0] V D Q := yat (c := xk_307) (hd := []) (dk := []) (dv := [3070153, 3070163, 3070174]) (nb := [2290005, 3070113, 3070127]) rfl h
set_option maxRecDepth 20000 in
theorem u_308_0 {d : Nat} {V : xF} {D : yD} {Q : xRes → xF → yD → Prop}
    (h : RY d 303 0 [vr 405, vi 0, vi (wr ((V 406 3) - 1)), vr 0, vr 0] [] V D (yback d 308 13 [vr 405, vr 0, vr 0, vr 0] [] Q)) :
    RY d 308 0 [vr 405, vr 0, vr 0, vr 0] [] V D Q := yat (c := xk_308) (hd := []) (dk := []) (dv := []) (nb := []) rfl h
set_option maxRecDepth 20000 in
theorem u_308_13 {d : Nat} {i_0 : Int} {V : xF} {D : yD} {Q : xRes → xF → yD → Prop}
    (h : RY d 305 0 [vr 405] [] V D (yback d 308 18 [vr 405, vi i_0, vr 0, vr 0] [] Q)) :
    RY d 308 13 [vr 405, vr 0, vr 0, vr 0] [vi i_0] V D Q := yat (c := xk_308) (hd := []) (dk := []) (dv := []) (nb := []) rfl h
set_option maxRecDepth 20000 in
theorem u_308_18 {d : Nat} {i1 i_0 : Int} {V : xF} {D : yD} {Q : xRes → xF → yD → Prop}
    (h : RY d 303 0 [vr 405, vi 0, vi (wr ((V 406 3) - 1)), vr 0, vr 0] [] V D (yback d 308 32 [vr 405, vi i1, vi i_0, vr 0] [] Q)) :
    RY d 308 18 [vr 405, vi i1, vr 0, vr 0] [vi i_0] V D Q := yat (c := xk_308) (hd := []) (dk := []) (dv := []) (nb := []) rfl h
set_option maxRecDepth 20000 in
theorem u_308_32 {d : Nat} {i1 i2 i_0 : Int} {V : xF} {D : yD} {Q : xRes → xF → yD → Prop}
    (h : ((V 405 12) ≠ ((-1)) → (((V 405 12) ≠ ((-1)) → Q (.inl none) V D) ∧ ((V 405 12) = ((-1)) → (((0 : Int) ≤ wr ((wr ((66 : Int) + (wr ((5 : Int) * i1)))) + i_0) ∧ wr ((wr ((66 : Int) + (wr ((5 : Int) * i1)))) + i_0) < (731 : Int)) ∧ (∀ V1 : xF, V1 = up2 V 406 ((wr ((wr ((66 : Int) + (wr ((5 : Int) * i1)))) + i_0)).toNat) 1 → (((0 : Int) ≤ wr ((wr ((66 : Int) + (wr ((5 : Int) * i_0)))) + i1) ∧ wr ((wr ((66 : Int) + (wr ((5 : Int) * i_0)))) + i1) < (731 : Int)) ∧ (∀ V2 : xF, V2 = up2 V1 406 ((wr ((wr ((66 : Int) + (wr ((5 : Int) * i_0)))) + i1)).toNat) 1 → Q (.inl none) V2 D))))))) ∧ ((V 405 12) = ((-1)) → ((i_0 ≠ i1 → (((V 405 12) ≠ ((-1)) → Q (.inl none) V D) ∧ ((V 405 12) = ((-1)) → (((0 : Int) ≤ wr ((wr ((66 : Int) + (wr ((5 : Int) * i1)))) + i_0) ∧ wr ((wr ((66 : Int) + (wr ((5 : Int) * i1)))) + i_0) < (731 : Int)) ∧ (∀ V3 : xF, V3 = up2 V 406 ((wr ((wr ((66 : Int) + (wr ((5 : Int) * i1)))) + i_0)).toNat) 1 → (((0 : Int) ≤ wr ((wr ((66 : Int) + (wr ((5 : Int) * i_0)))) + i1) ∧ wr ((wr ((66 : Int) + (wr ((5 : Int) * i_0)))) + i1) < (731 : Int)) ∧ (∀ V4 : xF, V4 = up2 V3 406 ((wr ((wr ((66 : Int) + (wr ((5 : Int) * i_0)))) + i1)).toNat) 1 → Q (.inl none) V4 D))))))) ∧ (i_0 = i1 → (((V 405 12) ≠ ((-1)) → (((V 405 12) ≠ ((-1)) → Q (.inl none) V D) ∧ ((V 405 12) = ((-1)) → (((0 : Int) ≤ wr ((wr ((66 : Int) + (wr ((5 : Int) * i1)))) + i_0) ∧ wr ((wr ((66 : Int) + (wr ((5 : Int) * i1)))) + i_0) < (731 : Int)) ∧ (∀ V5 : xF, V5 = up2 V 406 ((wr ((wr ((66 : Int) + (wr ((5 : Int) * i1)))) + i_0)).toNat) 1 → (((0 : Int) ≤ wr ((wr ((66 : Int) + (wr ((5 : Int) * i_0)))) + i1) ∧ wr ((wr ((66 : Int) + (wr ((5 : Int) * i_0)))) + i1) < (731 : Int)) ∧ (∀ V6 : xF, V6 = up2 V5 406 ((wr ((wr ((66 : Int) + (wr ((5 : Int) * i_0)))) + i1)).toNat) 1 → Q (.inl none) V6 D))))))) ∧ ((V 405 12) = ((-1)) → ∀ V7 : xF, V7 = up2 V 405 12 i2 → (((V7 405 12) ≠ ((-1)) → Q (.inl none) V7 D) ∧ ((V7 405 12) = ((-1)) → (((0 : Int) ≤ wr ((wr ((66 : Int) + (wr ((5 : Int) * i1)))) + i_0) ∧ wr ((wr ((66 : Int) + (wr ((5 : Int) * i1)))) + i_0) < (731 : Int)) ∧ (∀ V8 : xF, V8 = up2 V7 406 ((wr ((wr ((66 : Int) + (wr ((5 : Int) * i1)))) + i_0)).toNat) 1 → (((0 : Int) ≤ wr ((wr ((66 : Int) + (wr ((5 : Int) * i_0)))) + i1) ∧ wr ((wr ((66 : Int) + (wr ((5 : Int) * i_0)))) + i1) < (731 : Int)) ∧ (∀ V9 : xF, V9 = up2 V8 406 ((wr ((wr ((66 : Int) + (wr ((5 : Int) * i_0)))) + i1)).toNat) 1 → Q (.inl none) V9 D)))))))))))) :
    RY d 308 32 [vr 405, vi i1, vi i2, vr 0] [vi i_0] V D Q := yat (c := xk_308) (hd := []) (dk := []) (dv := [1720013, 1720027]) (nb := [2290005, 3080038, 3080043, 3080056]) rfl h
set_option maxRecDepth 20000 in
theorem u_309_0 {d : Nat} {V : xF} {D : yD} {Q : xRes → xF → yD → Prop}
    (h : RY d 303 0 [vr 405, vi 0, vi (wr ((V 406 3) - 1)), vr 0, vr 0] [] V D (yback d 309 13 [vr 405, vr 0, vr 0, vr 0] [] Q)) :
    RY d 309 0 [vr 405, vr 0, vr 0, vr 0] [] V D Q := yat (c := xk_309) (hd := []) (dk := []) (dv := []) (nb := []) rfl h
set_option maxRecDepth 20000 in
theorem u_309_13 {d : Nat} {i_0 : Int} {V : xF} {D : yD} {Q : xRes → xF → yD → Prop}
    (h : ((V 405 12) ≠ ((-1)) → RY d 303 0 [vr 405, vi 1, vi 1, vr 0, vr 0] [] V D (yback d 309 39 [vr 405, vi i_0, vr 0, vr 0] [] Q)) ∧ ((V 405 12) = ((-1)) → (yg_133 i_0 0 V D ∧ RY d 303 0 [vr 405, vi 1, vi (wr ((yr_133 i_0 0 V D) - 1)), vr 0, vr 0] [] V D (yback d 309 39 [vr 405, vi i_0, vr 0, vr 0] [] Q)))) :
    RY d 309 13 [vr 405, vr 0, vr 0, vr 0] [vi i_0] V D Q := yat (c := xk_309) (hd := []) (dk := []) (dv := []) (nb := [3090021]) rfl h
set_option maxRecDepth 20000 in
theorem u_309_39 {d : Nat} {i1 i_0 : Int} {V : xF} {D : yD} {Q : xRes → xF → yD → Prop}
    (h : ((V 405 12) ≠ ((-1)) → RY d 303 0 [vr 405, vi 1, vi 1, vr 0, vr 0] [] V D (yback d 309 65 [vr 405, vi i1, vi i_0, vr 0] [] Q)) ∧ ((V 405 12) = ((-1)) → (yg_133 i1 1 V D ∧ RY d 303 0 [vr 405, vi 1, vi (wr ((yr_133 i1 1 V D) - 1)), vr 0, vr 0] [] V D (yback d 309 65 [vr 405, vi i1, vi i_0, vr 0] [] Q)))) :
    RY d 309 39 [vr 405, vi i1, vr 0, vr 0] [vi i_0] V D Q := yat (c := xk_309) (hd := []) (dk := []) (dv := []) (nb := [3090047]) rfl h
set_option maxRecDepth 20000 in
theorem u_309_65 {d : Nat} {i1 i2 i_0 : Int} {V : xF} {D : yD} {Q : xRes → xF → yD → Prop}
    (h : ((V 405 12) = ((-1)) → ∀ V1 : xF, V1 = up2 V 406 5 i1 → ∀ V2 : xF, V2 = up2 V1 406 6 i2 → ∀ V3 : xF, V3 = up2 V2 406 7 i_0 → Q (.inl none) V3 D) ∧ ((V 405 12) ≠ ((-1)) → Q (.inl none) V D)) :
    RY d 309 65 [vr 405, vi i1, vi i2, vr 0] [vi i_0] V D Q := yat (c := xk_309) (hd := []) (dk := []) (dv := []) (nb := [3090071]) rfl h
set_option maxRecDepth 20000 in
theorem u_310_0 {d : Nat} {i1 i2 i3 : Int} {V : xF} {D : yD} {Q : xRes → xF → yD → Prop}
    (h : RY d 303 0 [vr 405, vi i2, vi i3, vr 0, vr 0] [] V D (yback d 310 6 [vr 405, vi i1, vi i2, vi i3, vr 0] [] Q)) :
    RY d 310 0 [vr 405, vi i1, vi i2, vi i3, vr 0] [] V D Q := yat (c := xk_310) (hd := []) (dk := []) (dv := []) (nb := []) rfl h
set_option maxRecDepth 20000 in
theorem u_310_6 {d : Nat} {i1 i2 i3 i_0 : Int} {V : xF} {D : yD} {Q : xRes → xF → yD → Prop}
    (h : ((V 405 12) ≠ ((-1)) → Q (.inl none) V D) ∧ ((V 405 12) = ((-1)) → (((0 : Int) ≤ i1 ∧ i1 < (731 : Int)) ∧ (∀ V1 : xF, V1 = up2 V 406 i1.toNat i_0 → Q (.inl none) V1 D)))) :
    RY d 310 6 [vr 405, vi i1, vi i2, vi i3, vr 0] [vi i_0] V D Q := yat (c := xk_310) (hd := []) (dk := []) (dv := [3100023]) (nb := [3100013]) rfl h
set_option maxRecDepth 20000 in
theorem u_311_0 {d : Nat} {V : xF} {D : yD} {Q : xRes → xF → yD → Prop}
    (h : RY d 352 0 [vr 76, vr 22] [] V D (yback d 311 9 [vr 248] [] Q)) :
    RY d 311 0 [vr 248] [] V D Q := yat (c := xk_311) (hd := []) (dk := []) (dv := []) (nb := []) rfl h
set_option maxRecDepth 20000 in
theorem u_311_9 {d : Nat} {i_0 : Int} {V : xF} {D : yD} {Q : xRes → xF → yD → Prop}
    (h : (i_0 = 0 → RY d 352 0 [vr 76, vr 23] [] V D (yback d 311 34 [vr 248] [] Q)) ∧ (i_0 ≠ 0 → (((0 : Int) ≤ V 248 5 ∧ V 248 5 < (12 : Int)) ∧ (∀ V1 : xF, V1 = up2 V 249 ((V 248 5).toNat) 2 → RY d 352 0 [vr 76, vr 25] [] V1 D (yback d 311 117 [vr 248] [] Q))))) :
    RY d 311 9 [vr 248] [vi i_0] V D Q := yat (c := xk_311) (hd := []) (dk := []) (dv := [3110021]) (nb := [3110009]) rfl h
set_option maxRecDepth 20000 in
theorem u_311_34 {d : Nat} {i_0 : Int} {V : xF} {D : yD} {Q : xRes → xF → yD → Prop}
    (h : (i_0 = 0 → RY d 352 0 [vr 76, vr 24] [] V D (yback d 311 59 [vr 248] [] Q)) ∧ (i_0 ≠ 0 → (((0 : Int) ≤ V 248 5 ∧ V 248 5 < (12 : Int)) ∧ (∀ V1 : xF, V1 = up2 V 249 ((V 248 5).toNat) 0 → RY d 362 0 [vr 76, vi 0, vi 50, vr 0] [] V1 D (yback d 311 87 [vr 248] [] Q))))) :
    RY d 311 34 [vr 248] [vi i_0] V D Q := yat (c := xk_311) (hd := []) (dk := []) (dv := [3110046]) (nb := [3110034]) rfl h
set_option maxRecDepth 20000 in
theorem u_311_59 {d : Nat} {i_0 : Int} {V : xF} {D : yD} {Q : xRes → xF → yD → Prop}
    (h : (i_0 = 0 → Q (.inl (some (vi 0))) V D) ∧ (i_0 ≠ 0 → (((0 : Int) ≤ V 248 5 ∧ V 248 5 < (12 : Int)) ∧ (∀ V1 : xF, V1 = up2 V 249 ((V 248 5).toNat) 1 → RY d 362 0 [vr 76, vi 0, vi 50, vr 0] [] V1 D (yback d 311 87 [vr 248] [] Q))))) :
    RY d 311 59 [vr 248] [vi i_0] V D Q := yat (c := xk_311) (hd := []) (dk := []) (dv := [3110071]) (nb := [3110059]) rfl h
set_option maxRecDepth 20000 in
theorem u_311_87 {d : Nat} {i_0 : Int} {V : xF} {D : yD} {Q : xRes → xF → yD → Prop}
    (h : (i_0 ≠ 0 → (((0 : Int) ≤ V 248 5 ∧ V 248 5 < (12 : Int)) ∧ (∀ V1 : xF, V1 = up2 V 250 ((V 248 5).toNat) (V 76 6) → RY d 352 0 [vr 76, vr 25] [] V1 D (yback d 311 117 [vr 248] [] Q)))) ∧ (i_0 = 0 → Q (.inl (some (vi 0))) V D)) :
    RY d 311 87 [vr 248] [vi i_0] V D Q := yat (c := xk_311) (hd := []) (dk := []) (dv := [3110107]) (nb := [3110087]) rfl h
set_option maxRecDepth 20000 in
theorem u_311_117 {d : Nat} {i_0 : Int} {V : xF} {D : yD} {Q : xRes → xF → yD → Prop}
    (h : (i_0 = 0 → Q (.inl (some (vi 1))) V D) ∧ (i_0 ≠ 0 → RY d 363 0 [vr 248, vi 0, vr 0, vr 0, vr 0] [] V D (yback d 311 125 [vr 248] [] Q))) :
    RY d 311 117 [vr 248] [vi i_0] V D Q := yat (c := xk_311) (hd := []) (dk := []) (dv := []) (nb := [3110117]) rfl h
set_option maxRecDepth 20000 in
theorem u_311_125 {d : Nat} {i_0 : Int} {V : xF} {D : yD} {Q : xRes → xF → yD → Prop}
    (h : (i_0 = 0 → Q (.inl (some (vi 0))) V D) ∧ (i_0 ≠ 0 → Q (.inl (some (vi 1))) V D)) :
    RY d 311 125 [vr 248] [vi i_0] V D Q := yat (c := xk_311) (hd := []) (dk := []) (dv := []) (nb := [3110125]) rfl h
set_option maxRecDepth 20000 in
theorem u_313_0_81 {d : Nat} {i2 : Int} {V : xF} {D : yD} {Q : xRes → xF → yD → Prop}
    (h : RY d 313 2 [vr 256, vr 81, vi i2, vi 0] [] V D Q) :
    RY d 313 0 [vr 256, vr 81, vi i2, vr 0] [] V D Q := yat (c := xk_313) (hd := [3130002]) (dk := []) (dv := []) (nb := []) rfl h
set_option maxRecDepth 20000 in
theorem u_313_2_81 {d : Nat} {i2 i3 : Int} {V : xF} {D : yD} {Q : xRes → xF → yD → Prop}
    (h : yg_314_81 i2 V D ∧ (((yr_314_81 i2 V D) ≤ i3 → Q (.inl none) V D) ∧ (i3 < (yr_314_81 i2 V D) → (yg_315_81 i2 i3 V D ∧ (24 ≤ (yK D.2.2.1 257).1 ∧ (yK D.2.2.1 257).1 ≤ 25) ∧ ((0 : Int) ≤ i3 ∧ i3 < (121 : Int)) ∧ yR D.2.1 D.2.2.1 257 i3.toNat ≠ 0 ∧ (∀ q1 : Nat, q1 = yR D.2.1 D.2.2.1 257 i3.toNat → RY d 212 0 [vr 254, vr 81, vi i2, vi (yr_315_81 i2 i3 V D), vr q1, vr 0, vr 0, vr 0] [] V D (yback d 313 32 [vr 256, vr 81, vi i2, vi i3] [] Q)))))) :
    RY d 313 2 [vr 256, vr 81, vi i2, vi i3] [] V D Q := yat (c := xk_313) (hd := [3130002]) (dk := [3130028]) (dv := [3130028]) (nb := [3130008]) rfl h
set_option maxRecDepth 20000 in
theorem u_313_32_81 {d : Nat} {i2 i3 : Int} {V : xF} {D : yD} {Q : xRes → xF → yD → Prop}
    (h : RY d 313 2 [vr 256, vr 81, vi i2, vi (wr (i3 + 1))] [] V D Q) :
    RY d 313 32 [vr 256, vr 81, vi i2, vi i3] [] V D Q := yat (c := xk_313) (hd := [3130002]) (dk := []) (dv := []) (nb := []) rfl h
set_option maxRecDepth 20000 in
theorem u_316_0 {d : Nat} {a0 a1 : Nat} {V : xF} {D : yD} {Q : xRes → xF → yD → Prop}
    (h : RY d 316 4 [vr a0, vr a1, vi 0, vi 0] [] V D Q) :
    RY d 316 0 [vr a0, vr a1, vr 0, vr 0] [] V D Q := yat (c := xk_316) (hd := [3160004]) (dk := []) (dv := []) (nb := []) rfl h
set_option maxRecDepth 20000 in
theorem u_316_4 {d : Nat} {a0 a1 : Nat} {i2 i3 : Int} {V : xF} {D : yD} {Q : xRes → xF → yD → Prop}
    (h : ((48 : Int) ≤ i3 → Q (.inl (some (vi i2))) V D) ∧ (i3 < 48 → (a0 ≠ 0 ∧ (20 ≤ (yK D.2.2.1 a0).1 ∧ (yK D.2.2.1 a0).1 ≤ 21) ∧ ((0 : Int) ≤ i3 ∧ i3 < ((yK D.2.2.1 a0).2 : Int)) ∧ a1 ≠ 0 ∧ (20 ≤ (yK D.2.2.1 a1).1 ∧ (yK D.2.2.1 a1).1 ≤ 21) ∧ ((0 : Int) ≤ i3 ∧ i3 < ((yK D.2.2.1 a1).2 : Int)) ∧ (((V a1 i3.toNat) ≤ (V a0 i3.toNat) → RY d 316 4 [vr a0, vr a1, vi i2, vi (wr (i3 + 1))] [] V D Q) ∧ ((V a0 i3.toNat) < (V a1 i3.toNat) → RY d 316 4 [vr a0, vr a1, vi (wr (i2 + 1)), vi (wr (i3 + 1))] [] V D Q))))) :
    RY d 316 4 [vr a0, vr a1, vi i2, vi i3] [] V D Q := yat (c := xk_316) (hd := [3160004]) (dk := [3160010, 3160012, 3160013, 3160015]) (dv := [3160012, 3160015]) (nb := [3160007, 3160016]) rfl h
set_option maxRecDepth 20000 in
theorem u_317_0_81 {d : Nat} {i2 i3 : Int} {V : xF} {D : yD} {Q : xRes → xF → yD → Prop}
    (h : RY d 317 9 [vr 390, vr 81, vi i2, vi i3, vi ((-1)), vi 0, vi 0, vr 0, vr 0] [] V D Q) :
    RY d 317 0 [vr 390, vr 81, vi i2, vi i3, vr 0, vr 0, vr 0, vr 0, vr 0] [] V D Q := yat (c := xk_317) (hd := [3170009]) (dk := []) (dv := []) (nb := []) rfl h
set_option maxRecDepth 20000 in
theorem u_317_9_81 {d : Nat} {i2 i3 i4 i5 i6 : Int} {v7 v8 : xV} {V : xF} {D : yD} {Q : xRes → xF → yD → Prop}
    (h : ((V 81 6) ≤ i6 → ((i4 ≠ ((-1)) → Q (.inl (some (vi i4))) V D) ∧ (i4 = ((-1)) → Q (.inl (some (vi i2))) V D))) ∧ (i6 < (V 81 6) → (((0 : Int) ≤ i6 ∧ i6 < (5 : Int)) ∧ (((xand (xshr i3 i6) 1) ≠ 1 → RY d 317 9 [vr 390, vr 81, vi i2, vi i3, vi i4, vi i5, vi (wr (i6 + 1)), vi (V 89 i6.toNat), v8] [] V D Q) ∧ ((xand (xshr i3 i6) 1) = 1 → (((V 89 i6.toNat) = ((-1)) → RY d 317 9 [vr 390, vr 81, vi i2, vi i3, vi i4, vi i5, vi (wr (i6 + 1)), vi (V 89 i6.toNat), v8] [] V D Q) ∧ ((V 89 i6.toNat) ≠ ((-1)) → (((0 : Int) ≤ V 89 i6.toNat ∧ V 89 i6.toNat < (5 : Int)) ∧ RY d 249 0 [vr 390, vr 81, vi i2, vi (V 89 i6.toNat), vi (V 85 ((V 89 i6.toNat).toNat))] [] V D (yback d 317 58 [vr 390, vr 81, vi i2, vi i3, vi i4, vi i5, vi i6, vi (V 89 i6.toNat), v8] [] Q))))))))) :
    RY d 317 9 [vr 390, vr 81, vi i2, vi i3, vi i4, vi i5, vi i6, v7, v8] [] V D Q := yat (c := xk_317) (hd := [3170009]) (dk := []) (dv := [3170024, 3170054]) (nb := [3170015, 3170034, 3170040, 3170121]) rfl h
set_option maxRecDepth 20000 in
theorem u_317_58_81 {d : Nat} {i2 i3 i4 i5 i6 i7 i_0 : Int} {v8 : xV} {V : xF} {D : yD} {Q : xRes → xF → yD → Prop}
    (h : (i_0 ≠ 0 → RY d 317 9 [vr 390, vr 81, vi i2, vi i3, vi i4, vi i5, vi (wr (i6 + 1)), vi i7, v8] [] V D Q) ∧ (i_0 = 0 → (((0 : Int) ≤ i7 ∧ i7 < (5 : Int)) ∧ RY d 248 0 [vr 390, vr 81, vi i2, vi i7, vi (V 85 i7.toNat), vr 0] [] V D (yback d 317 76 [vr 390, vr 81, vi i2, vi i3, vi i4, vi i5, vi i6, vi i7, v8] [] Q)))) :
    RY d 317 58 [vr 390, vr 81, vi i2, vi i3, vi i4, vi i5, vi i6, vi i7, v8] [vi i_0] V D Q := yat (c := xk_317) (hd := [3170009]) (dk := []) (dv := [3170072]) (nb := [3170058]) rfl h
set_option maxRecDepth 20000 in
theorem u_317_76_81 {d : Nat} {i2 i3 i4 i5 i6 i7 i_0 : Int} {v8 : xV} {V : xF} {D : yD} {Q : xRes → xF → yD → Prop}
    (h : (i4 = ((-1)) → RY d 317 9 [vr 390, vr 81, vi i2, vi i3, vi i6, vi i_0, vi (wr (i6 + 1)), vi i7, vi i_0] [] V D Q) ∧ (i4 ≠ ((-1)) → ((i5 < i_0 → RY d 317 9 [vr 390, vr 81, vi i2, vi i3, vi i6, vi i_0, vi (wr (i6 + 1)), vi i7, vi i_0] [] V D Q) ∧ (i_0 ≤ i5 → ((i_0 ≠ i5 → RY d 317 9 [vr 390, vr 81, vi i2, vi i3, vi i4, vi i5, vi (wr (i6 + 1)), vi i7, vi i_0] [] V D Q) ∧ (i_0 = i5 → ((i6 ≠ i2 → RY d 317 9 [vr 390, vr 81, vi i2, vi i3, vi i4, vi i5, vi (wr (i6 + 1)), vi i7, vi i_0] [] V D Q) ∧ (i6 = i2 → RY d 317 9 [vr 390, vr 81, vi i2, vi i3, vi i6, vi i_0, vi (wr (i6 + 1)), vi i7, vi i_0] [] V D Q)))))))) :
    RY d 317 76 [vr 390, vr 81, vi i2, vi i3, vi i4, vi i5, vi i6, vi i7, v8] [vi i_0] V D Q := yat (c := xk_317) (hd := [3170009]) (dk := []) (dv := []) (nb := [3170081, 3170088, 3170095, 3170101]) rfl h
set_option maxRecDepth 20000 in
theorem u_318_0_81 {d : Nat} {i2 : Int} {V : xF} {D : yD} {Q : xRes → xF → yD → Prop}
    (h : ((0 : Int) ≤ i2 ∧ i2 < (5 : Int)) ∧ RY d 318 10 [vr 390, vr 81, vi i2, vi (V 402 i2.toNat), vi 0] [] V D Q) :
    RY d 318 0 [vr 390, vr 81, vi i2, vr 0, vr 0] [] V D Q := yat (c := xk_318) (hd := [3180010]) (dk := []) (dv := [3180005]) (nb := []) rfl h
set_option maxRecDepth 20000 in
theorem u_318_10_81 {d : Nat} {i2 i3 i4 : Int} {V : xF} {D : yD} {Q : xRes → xF → yD → Prop}
    (h : ((V 81 6) ≤ i4 → Q (.inl (some (vi 0))) V D) ∧ (i4 < (V 81 6) → ((i3 = ((-1)) → Q (.inl (some (vi 0))) V D) ∧ (i3 ≠ ((-1)) → ((i3 ≠ i2 → (((0 : Int) ≤ i3 ∧ i3 < (5 : Int)) ∧ RY d 318 10 [vr 390, vr 81, vi i2, vi (V 402 i3.toNat), vi (wr (i4 + 1))] [] V D Q)) ∧ (i3 = i2 → Q (.inl (some (vi 1))) V D)))))) :
    RY d 318 10 [vr 390, vr 81, vi i2, vi i3, vi i4] [] V D Q := yat (c := xk_318) (hd := [3180010]) (dk := []) (dv := [3180036]) (nb := [3180016, 3180021, 3180026]) rfl h
set_option maxRecDepth 20000 in
theorem u_319_0_81 {d : Nat} {i2 i3 i4 : Int} {V : xF} {D : yD} {Q : xRes → xF → yD → Prop}
    (h : ∀ V1 : xF, V1 = up2 V 394 0 i2 → ∀ V2 : xF, V2 = up2 V1 394 1 i3 → (((0 : Int) ≤ i3 ∧ i3 < (5 : Int)) ∧ (∀ V3 : xF, V3 = up2 V2 394 2 (V2 82 i3.toNat) → (((0 : Int) ≤ i3 ∧ i3 < (5 : Int)) ∧ (∀ V4 : xF, V4 = up2 V3 394 3 (V3 83 i3.toNat) → ∀ V5 : xF, V5 = up2 V4 394 4 i4 → (((0 : Int) ≤ i3 ∧ i3 < (5 : Int)) ∧ (∀ V6 : xF, V6 = up2 V5 394 5 (V5 392 i3.toNat) → (((0 : Int) ≤ i3 ∧ i3 < (5 : Int)) ∧ (∀ V7 : xF, V7 = up2 V6 394 6 (V6 393 i3.toNat) → ∀ V8 : xF, V8 = up2 V7 394 7 (V7 81 18) → (((0 : Int) ≤ i3 ∧ i3 < (5 : Int)) ∧ (∀ V9 : xF, V9 = up2 V8 394 8 (V8 86 i3.toNat) → Q (.inl none) V9 D))))))))))) :
    RY d 319 0 [vr 390, vr 81, vi i2, vi i3, vi i4] [] V D Q := yat (c := xk_319) (hd := []) (dk := []) (dv := [3190024, 3190036, 3190056, 3190069, 3190093]) (nb := []) rfl h
set_option maxRecDepth 20000 in
theorem u_319_0_92 {d : Nat} {i2 i3 i4 : Int} {V : xF} {D : yD} {Q : xRes → xF → yD → Prop}
    (h : ∀ V1 : xF, V1 = up2 V 394 0 i2 → ∀ V2 : xF, V2 = up2 V1 394 1 i3 → (((0 : Int) ≤ i3 ∧ i3 < (5 : Int)) ∧ (∀ V3 : xF, V3 = up2 V2 394 2 (V2 93 i3.toNat) → (((0 : Int) ≤ i3 ∧ i3 < (5 : Int)) ∧ (∀ V4 : xF, V4 = up2 V3 394 3 (V3 94 i3.toNat) → ∀ V5 : xF, V5 = up2 V4 394 4 i4 → (((0 : Int) ≤ i3 ∧ i3 < (5 : Int)) ∧ (∀ V6 : xF, V6 = up2 V5 394 5 (V5 392 i3.toNat) → (((0 : Int) ≤ i3 ∧ i3 < (5 : Int)) ∧ (∀ V7 : xF, V7 = up2 V6 394 6 (V6 393 i3.toNat) → ∀ V8 : xF, V8 = up2 V7 394 7 (V7 92 18) → (((0 : Int) ≤ i3 ∧ i3 < (5 : Int)) ∧ (∀ V9 : xF, V9 = up2 V8 394 8 (V8 97 i3.toNat) → Q (.inl none) V9 D))))))))))) :
    RY d 319 0 [vr 390, vr 92, vi i2, vi i3, vi i4] [] V D Q := yat (c := xk_319) (hd := []) (dk := []) (dv := [3190024, 3190036, 3190056, 3190069, 3190093]) (nb := []) rfl h
set_option maxRecDepth 20000 in
theorem u_320_0 {d : Nat} {a0 : Nat} {V : xF} {D : yD} {Q : xRes → xF → yD → Prop}
    (h : RY d 320 4 [vr a0, vr 394, vi 0, vi 0] [] V D Q) :
    RY d 320 0 [vr a0, vr 394, vr 0, vr 0] [] V D Q := yat (c := xk_320) (hd := [3200004]) (dk := []) (dv := []) (nb := []) rfl h
set_option maxRecDepth 20000 in
theorem u_320_4 {d : Nat} {a0 : Nat} {i2 i3 : Int} {V : xF} {D : yD} {Q : xRes → xF → yD → Prop}
    (h : a0 ≠ 0 ∧ (yK D.2.2.1 a0).1 = 3 ∧ (((V a0 0) ≤ i3 → Q (.inl (some (vi i2))) V D) ∧ (i3 < (V a0 0) → (a0 ≠ 0 ∧ (yK D.2.2.1 a0).1 = 3 ∧ yR D.2.1 D.2.2.1 a0 1 ≠ 0 ∧ (20 ≤ (yK D.2.2.1 (yR D.2.1 D.2.2.1 a0 1)).1 ∧ (yK D.2.2.1 (yR D.2.1 D.2.2.1 a0 1)).1 ≤ 21) ∧ ((0 : Int) ≤ i3 ∧ i3 < ((yK D.2.2.1 (yR D.2.1 D.2.2.1 a0 1)).2 : Int)) ∧ (((V (yR D.2.1 D.2.2.1 a0 1) i3.toNat) = 2 → RY d 320 4 [vr a0, vr 394, vi i2, vi (wr (i3 + 1))] [] V D Q) ∧ ((V (yR D.2.1 D.2.2.1 a0 1) i3.toNat) ≠ 2 → (a0 ≠ 0 ∧ (yK D.2.2.1 a0).1 = 3 ∧ RY d 364 0 [vr a0, vi i3, vr 394, vr 0, vr 0, vr 0, vr 0, vr 0] [] V D (yback d 320 28 [vr a0, vr 394, vi i2, vi i3] [] Q)))))))) :
    RY d 320 4 [vr a0, vr 394, vi i2, vi i3] [] V D Q := yat (c := xk_320) (hd := [3200004]) (dk := [3200005, 3200006, 3200012, 3200013, 3200017, 3200022, 3200025]) (dv := [3200017]) (nb := [3200009, 3200019]) rfl h
set_option maxRecDepth 20000 in
theorem u_320_28 {d : Nat} {a0 : Nat} {i2 i3 i_0 : Int} {V : xF} {D : yD} {Q : xRes → xF → yD → Prop}
    (h : (i_0 = 0 → RY d 320 4 [vr a0, vr 394, vi i2, vi (wr (i3 + 1))] [] V D Q) ∧ (i_0 ≠ 0 → (a0 ≠ 0 ∧ (yK D.2.2.1 a0).1 = 3 ∧ yR D.2.1 D.2.2.1 a0 1 ≠ 0 ∧ (20 ≤ (yK D.2.2.1 (yR D.2.1 D.2.2.1 a0 1)).1 ∧ (yK D.2.2.1 (yR D.2.1 D.2.2.1 a0 1)).1 ≤ 21) ∧ ((0 : Int) ≤ i3 ∧ i3 < ((yK D.2.2.1 (yR D.2.1 D.2.2.1 a0 1)).2 : Int)) ∧ (((V (yR D.2.1 D.2.2.1 a0 1) i3.toNat) ≠ 0 → (a0 ≠ 0 ∧ (yK D.2.2.1 a0).1 = 3 ∧ yR D.2.1 D.2.2.1 a0 2 ≠ 0 ∧ (20 ≤ (yK D.2.2.1 (yR D.2.1 D.2.2.1 a0 2)).1 ∧ (yK D.2.2.1 (yR D.2.1 D.2.2.1 a0 2)).1 ≤ 21) ∧ ((0 : Int) ≤ i3 ∧ i3 < ((yK D.2.2.1 (yR D.2.1 D.2.2.1 a0 2)).2 : Int)) ∧ RY d 320 4 [vr a0, vr 394, vi (wr (i2 + (wr (-(V (yR D.2.1 D.2.2.1 a0 2) i3.toNat))))), vi (wr (i3 + 1))] [] V D Q)) ∧ ((V (yR D.2.1 D.2.2.1 a0 1) i3.toNat) = 0 → (a0 ≠ 0 ∧ (yK D.2.2.1 a0).1 = 3 ∧ yR D.2.1 D.2.2.1 a0 2 ≠ 0 ∧ (20 ≤ (yK D.2.2.1 (yR D.2.1 D.2.2.1 a0 2)).1 ∧ (yK D.2.2.1 (yR D.2.1 D.2.2.1 a0 2)).1 ≤ 21) ∧ ((0 : Int) ≤ i3 ∧ i3 < ((yK D.2.2.1 (yR D.2.1 D.2.2.1 a0 2)).2 : Int)) ∧ RY d 320 4 [vr a0, vr 394, vi (wr (i2 + (V (yR D.2.1 D.2.2.1 a0 2) i3.toNat))), vi (wr (i3 + 1))] [] V D Q)))))) :
    RY d 320 28 [vr a0, vr 394, vi i2, vi i3] [vi i_0] V D Q := yat (c := xk_320) (hd := [3200004]) (dk := [3200032, 3200033, 3200037, 3200041, 3200042, 3200046, 3200050, 3200051, 3200055]) (dv := [3200037, 3200046, 3200055]) (nb := [3200028, 3200038]) rfl h
set_option maxRecDepth 20000 in
theorem u_321_0 {d : Nat} {a0 : Nat} {V : xF} {D : yD} {Q : xRes → xF → yD → Prop}
    (h : RY d 321 2 [vr a0, vr 394, vi 0] [] V D Q) :
    RY d 321 0 [vr a0, vr 394, vr 0] [] V D Q := yat (c := xk_321) (hd := [3210002]) (dk := []) (dv := []) (nb := []) rfl h
set_option maxRecDepth 20000 in
theorem u_321_2 {d : Nat} {a0 : Nat} {i2 : Int} {V : xF} {D : yD} {Q : xRes → xF → yD → Prop}
    (h : a0 ≠ 0 ∧ (yK D.2.2.1 a0).1 = 3 ∧ (((V a0 0) ≤ i2 → Q (.inl (some (vi 0))) V D) ∧ (i2 < (V a0 0) → (a0 ≠ 0 ∧ (yK D.2.2.1 a0).1 = 3 ∧ yR D.2.1 D.2.2.1 a0 1 ≠ 0 ∧ (20 ≤ (yK D.2.2.1 (yR D.2.1 D.2.2.1 a0 1)).1 ∧ (yK D.2.2.1 (yR D.2.1 D.2.2.1 a0 1)).1 ≤ 21) ∧ ((0 : Int) ≤ i2 ∧ i2 < ((yK D.2.2.1 (yR D.2.1 D.2.2.1 a0 1)).2 : Int)) ∧ (((V (yR D.2.1 D.2.2.1 a0 1) i2.toNat) ≠ 2 → RY d 321 2 [vr a0, vr 394, vi (wr (i2 + 1))] [] V D Q) ∧ ((V (yR D.2.1 D.2.2.1 a0 1) i2.toNat) = 2 → (a0 ≠ 0 ∧ (yK D.2.2.1 a0).1 = 3 ∧ RY d 364 0 [vr a0, vi i2, vr 394, vr 0, vr 0, vr 0, vr 0, vr 0] [] V D (yback d 321 26 [vr a0, vr 394, vi i2] [] Q)))))))) :
    RY d 321 2 [vr a0, vr 394, vi i2] [] V D Q := yat (c := xk_321) (hd := [3210002]) (dk := [3210003, 3210004, 3210010, 3210011, 3210015, 3210020, 3210023]) (dv := [3210015]) (nb := [3210007, 3210017]) rfl h
set_option maxRecDepth 20000 in
theorem u_321_26 {d : Nat} {a0 : Nat} {i2 i_0 : Int} {V : xF} {D : yD} {Q : xRes → xF → yD → Prop}
    (h : (i_0 = 0 → RY d 321 2 [vr a0, vr 394, vi (wr (i2 + 1))] [] V D Q) ∧ (i_0 ≠ 0 → Q (.inl (some (vi 1))) V D)) :
    RY d 321 26 [vr a0, vr 394, vi i2] [vi i_0] V D Q := yat (c := xk_321) (hd := [3210002]) (dk := []) (dv := []) (nb := [3210026]) rfl h
set_option maxRecDepth 20000 in
theorem u_323_0 {d : Nat} {i0 i1 i2 : Int} {V : xF} {D : yD} {Q : xRes → xF → yD → Prop}
    (h : RY d 323 5 [vi i0, vi i1, vi i2, vi i0, vi 0] [] V D Q) :
    RY d 323 0 [vi i0, vi i1, vi i2, vr 0, vr 0] [] V D Q := yat (c := xk_323) (hd := [3230005]) (dk := []) (dv := []) (nb := []) rfl h
set_option maxRecDepth 20000 in
theorem u_323_5 {d : Nat} {i0 i1 i2 i3 i4 : Int} {V : xF} {D : yD} {Q : xRes → xF → yD → Prop}
    (h : (i2 ≤ i4 → Q (.inl (some (vi i3))) V D) ∧ (i4 < i2 → RY d 323 5 [vi i0, vi i1, vi i2, vi (wr ((wr (i3 * (yr_365 i1 V D))).tdiv 10)), vi (wr (i4 + 1))] [] V D Q)) :
    RY d 323 5 [vi i0, vi i1, vi i2, vi i3, vi i4] [] V D Q := yat (c := xk_323) (hd := [3230005]) (dk := []) (dv := []) (nb := [3230008]) rfl h
set_option maxRecDepth 20000 in
theorem u_324_0_81 {d : Nat} {V : xF} {D : yD} {Q : xRes → xF → yD → Prop}
    (h : RY d 324 4 [vr 81, vi 0, vi 0, vr 0] [] V D Q) :
    RY d 324 0 [vr 81, vr 0, vr 0, vr 0] [] V D Q := yat (c := xk_324) (hd := [3240004]) (dk := []) (dv := []) (nb := []) rfl h
set_option maxRecDepth 20000 in
theorem u_324_4_81 {d : Nat} {i1 i2 : Int} {v3 : xV} {V : xF} {D : yD} {Q : xRes → xF → yD → Prop}
    (h : ((V 81 0) ≤ i2 → ((i1 = 0 ∨ i1 = 1) ∧ Q (.inl (some (vi i1))) V D)) ∧ (i2 < (V 81 0) → ∀ V1 : xF, V1 = up2 V 81 19 (wr ((wr ((1103515245 : Int) * (V 81 19))) + 12345)) → (((V1 81 17) ≤ ((xand (xushr (V1 81 19) 16) 32767).tmod 100) → RY d 324 4 [vr 81, vi i1, vi (wr (i2 + 1)), v3] [] V1 D Q) ∧ (((xand (xushr (V1 81 19) 16) 32767).tmod 100) < (V1 81 17) → ∀ V2 : xF, V2 = up2 V1 81 19 (wr ((wr ((1103515245 : Int) * (V1 81 19))) + 12345)) → ∀ V3 : xF, V3 = up2 V2 81 19 (wr ((wr ((1103515245 : Int) * (V2 81 19))) + 12345)) → (((0 : Int) ≤ wr ((wr ((4 : Int) * i2)) + ((xand (xushr (V2 81 19) 16) 32767).tmod 4)) ∧ wr ((wr ((4 : Int) * i2)) + ((xand (xushr (V2 81 19) 16) 32767).tmod 4)) < (20 : Int)) ∧ (∀ V4 : xF, V4 = up2 V3 84 ((wr ((wr ((4 : Int) * i2)) + ((xand (xushr (V2 81 19) 16) 32767).tmod 4))).toNat) ((xand (xushr (V3 81 19) 16) 32767).tmod 5) → RY d 324 4 [vr 81, vi 1, vi (wr (i2 + 1)), vi ((xand (xushr (V2 81 19) 16) 32767).tmod 4)] [] V4 D Q)))))) :
    RY d 324 4 [vr 81, vi i1, vi i2, v3] [] V D Q := yat (c := xk_324) (hd := [3240004]) (dk := []) (dv := [3240048, 3240058]) (nb := [3240009, 3240023]) rfl h
set_option maxRecDepth 20000 in
theorem u_324_0_92 {d : Nat} {V : xF} {D : yD} {Q : xRes → xF → yD → Prop}
    (h : RY d 324 4 [vr 92, vi 0, vi 0, vr 0] [] V D Q) :
    RY d 324 0 [vr 92, vr 0, vr 0, vr 0] [] V D Q := yat (c := xk_324) (hd := [3240004]) (dk := []) (dv := []) (nb := []) rfl h
set_option maxRecDepth 20000 in
theorem u_324_4_92 {d : Nat} {i1 i2 : Int} {v3 : xV} {V : xF} {D : yD} {Q : xRes → xF → yD → Prop}
    (h : ((V 92 0) ≤ i2 → ((i1 = 0 ∨ i1 = 1) ∧ Q (.inl (some (vi i1))) V D)) ∧ (i2 < (V 92 0) → ∀ V1 : xF, V1 = up2 V 92 19 (wr ((wr ((1103515245 : Int) * (V 92 19))) + 12345)) → (((V1 92 17) ≤ ((xand (xushr (V1 92 19) 16) 32767).tmod 100) → RY d 324 4 [vr 92, vi i1, vi (wr (i2 + 1)), v3] [] V1 D Q) ∧ (((xand (xushr (V1 92 19) 16) 32767).tmod 100) < (V1 92 17) → ∀ V2 : xF, V2 = up2 V1 92 19 (wr ((wr ((1103515245 : Int) * (V1 92 19))) + 12345)) → ∀ V3 : xF, V3 = up2 V2 92 19 (wr ((wr ((1103515245 : Int) * (V2 92 19))) + 12345)) → (((0 : Int) ≤ wr ((wr ((4 : Int) * i2)) + ((xand (xushr (V2 92 19) 16) 32767).tmod 4)) ∧ wr ((wr ((4 : Int) * i2)) + ((xand (xushr (V2 92 19) 16) 32767).tmod 4)) < (20 : Int)) ∧ (∀ V4 : xF, V4 = up2 V3 95 ((wr ((wr ((4 : Int) * i2)) + ((xand (xushr (V2 92 19) 16) 32767).tmod 4))).toNat) ((xand (xushr (V3 92 19) 16) 32767).tmod 5) → RY d 324 4 [vr 92, vi 1, vi (wr (i2 + 1)), vi ((xand (xushr (V2 92 19) 16) 32767).tmod 4)] [] V4 D Q)))))) :
    RY d 324 4 [vr 92, vi i1, vi i2, v3] [] V D Q := yat (c := xk_324) (hd := [3240004]) (dk := []) (dv := [3240048, 3240058]) (nb := [3240009, 3240023]) rfl h
set_option maxRecDepth 20000 in
theorem u_325_0_81 {d : Nat} {i2 : Int} {V : xF} {D : yD} {Q : xRes → xF → yD → Prop}
    (h : ((0 : Int) ≤ i2 ∧ i2 < (5 : Int)) ∧ (((V 89 i2.toNat) ≠ ((-1)) → (((0 : Int) ≤ V 89 i2.toNat ∧ V 89 i2.toNat < (5 : Int)) ∧ RY d 248 0 [vr 390, vr 81, vi i2, vi (V 89 i2.toNat), vi (V 85 ((V 89 i2.toNat).toNat)), vr 0] [] V D (yback d 325 72 [vr 390, vr 81, vi i2, vi (V 89 i2.toNat), vr 0] [] Q))) ∧ ((V 89 i2.toNat) = ((-1)) → RY d 214 0 [vr 81, vr 0, vr 0] [] V D (yback d 325 19 [vr 390, vr 81, vi i2, vi (V 89 i2.toNat), vr 0] [vi i2, vr 81, vr 390] Q)))) :
    RY d 325 0 [vr 390, vr 81, vi i2, vr 0, vr 0] [] V D Q := yat (c := xk_325) (hd := []) (dk := []) (dv := [3250005, 3250068]) (nb := [3250009]) rfl h
set_option maxRecDepth 20000 in
theorem u_325_19_81 {d : Nat} {i2 i3 i_2 i_3 : Int} {V : xF} {D : yD} {Q : xRes → xF → yD → Prop}
    (h : RY d 281 0 [vr 390, vr 81, vi i_2, vi i_3, vr 0, vr 0, vr 0, vr 0] [] V D (yback d 325 22 [vr 390, vr 81, vi i2, vi i3, vr 0] [] Q)) :
    RY d 325 19 [vr 390, vr 81, vi i2, vi i3, vr 0] [vi i_3, vi i_2, vr 81, vr 390] V D Q := yat (c := xk_325) (hd := []) (dk := []) (dv := []) (nb := []) rfl h
set_option maxRecDepth 20000 in
theorem u_325_22_81 {d : Nat} {i2 i3 i_0 : Int} {V : xF} {D : yD} {Q : xRes → xF → yD → Prop}
    (h : (i_0 = ((-1)) → Q (.inl none) V D) ∧ (i_0 ≠ ((-1)) → (((0 : Int) ≤ i_0 ∧ i_0 < (5 : Int)) ∧ RY d 248 0 [vr 390, vr 81, vi i2, vi i_0, vi (V 85 i_0.toNat), vr 0] [] V D (yback d 325 45 [vr 390, vr 81, vi i2, vi i3, vi i_0] [] Q)))) :
    RY d 325 22 [vr 390, vr 81, vi i2, vi i3, vr 0] [vi i_0] V D Q := yat (c := xk_325) (hd := []) (dk := []) (dv := [3250041]) (nb := [3250027]) rfl h
set_option maxRecDepth 20000 in
theorem u_325_45_81 {d : Nat} {i2 i3 i4 i_0 : Int} {V : xF} {D : yD} {Q : xRes → xF → yD → Prop}
    (h : (i_0 < 0 → Q (.inl none) V D) ∧ ((0 : Int) ≤ i_0 → (((0 : Int) ≤ i2 ∧ i2 < (5 : Int)) ∧ (∀ V1 : xF, V1 = up2 V 89 i2.toNat i4 → Q (.inl none) V1 D)))) :
    RY d 325 45 [vr 390, vr 81, vi i2, vi i3, vi i4] [vi i_0] V D Q := yat (c := xk_325) (hd := []) (dk := []) (dv := [3250055]) (nb := [3250045]) rfl h
set_option maxRecDepth 20000 in
theorem u_325_72_81 {d : Nat} {i2 i3 i_0 : Int} {V : xF} {D : yD} {Q : xRes → xF → yD → Prop}
    (h : (i_0 < 0 → (((0 : Int) ≤ i2 ∧ i2 < (5 : Int)) ∧ (∀ V1 : xF, V1 = up2 V 89 i2.toNat ((-1)) → Q (.inl none) V1 D))) ∧ ((0 : Int) ≤ i_0 → (((0 : Int) ≤ i3 ∧ i3 < (5 : Int)) ∧ RY d 249 0 [vr 390, vr 81, vi i2, vi i3, vi (V 85 i3.toNat)] [] V D (yback d 325 88 [vr 390, vr 81, vi i2, vi i3, vr 0] [] Q)))) :
    RY d 325 72 [vr 390, vr 81, vi i2, vi i3, vr 0] [vi i_0] V D Q := yat (c := xk_325) (hd := []) (dk := []) (dv := [3250084, 3250097]) (nb := [3250072]) rfl h
set_option maxRecDepth 20000 in
theorem u_325_88_81 {d : Nat} {i2 i3 i_0 : Int} {V : xF} {D : yD} {Q : xRes → xF → yD → Prop}
    (h : (i_0 = 0 → Q (.inl none) V D) ∧ (i_0 ≠ 0 → (((0 : Int) ≤ i2 ∧ i2 < (5 : Int)) ∧ (∀ V1 : xF, V1 = up2 V 89 i2.toNat ((-1)) → Q (.inl none) V1 D)))) :
    RY d 325 88 [vr 390, vr 81, vi i2, vi i3, vr 0] [vi i_0] V D Q := yat (c := xk_325) (hd := []) (dk := []) (dv := [3250097]) (nb := [3250088]) rfl h
set_option maxRecDepth 20000 in
theorem u_325_0_92 {d : Nat} {i2 : Int} {V : xF} {D : yD} {Q : xRes → xF → yD → Prop}
    (h : ((0 : Int) ≤ i2 ∧ i2 < (5 : Int)) ∧ (((V 100 i2.toNat) ≠ ((-1)) → (((0 : Int) ≤ V 100 i2.toNat ∧ V 100 i2.toNat < (5 : Int)) ∧ RY d 248 0 [vr 390, vr 92, vi i2, vi (V 100 i2.toNat), vi (V 96 ((V 100 i2.toNat).toNat)), vr 0] [] V D (yback d 325 72 [vr 390, vr 92, vi i2, vi (V 100 i2.toNat), vr 0] [] Q))) ∧ ((V 100 i2.toNat) = ((-1)) → RY d 214 0 [vr 92, vr 0, vr 0] [] V D (yback d 325 19 [vr 390, vr 92, vi i2, vi (V 100 i2.toNat), vr 0] [vi i2, vr 92, vr 390] Q)))) :
    RY d 325 0 [vr 390, vr 92, vi i2, vr 0, vr 0] [] V D Q := yat (c := xk_325) (hd := []) (dk := []) (dv := [3250005, 3250068]) (nb := [3250009]) rfl h
set_option maxRecDepth 20000 in
theorem u_325_19_92 {d : Nat} {i2 i3 i_2 i_3 : Int} {V : xF} {D : yD} {Q : xRes → xF → yD → Prop}
    (h : RY d 281 0 [vr 390, vr 92, vi i_2, vi i_3, vr 0, vr 0, vr 0, vr 0] [] V D (yback d 325 22 [vr 390, vr 92, vi i2, vi i3, vr 0] [] Q)) :
    RY d 325 19 [vr 390, vr 92, vi i2, vi i3, vr 0] [vi i_3, vi i_2, vr 92, vr 390] V D Q := yat (c := xk_325) (hd := []) (dk := []) (dv := []) (nb := []) rfl h
set_option maxRecDepth 20000 in
theorem u_325_22_92 {d : Nat} {i2 i3 i_0 : Int} {V : xF} {D : yD} {Q : xRes → xF → yD → Prop}
    (h : (i_0 = ((-1)) → Q (.inl none) V D) ∧ (i_0 ≠ ((-1)) → (((0 : Int) ≤ i_0 ∧ i_0 < (5 : Int)) ∧ RY d 248 0 [vr 390, vr 92, vi i2, vi i_0, vi (V 96 i_0.toNat), vr 0] [] V D (yback d 325 45 [vr 390, vr 92, vi i2, vi i3, vi i_0] [] Q)))) :
    RY d 325 22 [vr 390, vr 92, vi i2, vi i3, vr 0] [vi i_0] V D Q := yat (c := xk_325) (hd := []) (dk := []) (dv := [3250041]) (nb := [3250027]) rfl h
set_option maxRecDepth 20000 in
theorem u_325_45_92 {d : Nat} {i2 i3 i4 i_0 : Int} {V : xF} {D : yD} {Q : xRes → xF → yD → Prop}
    (h : (i_0 < 0 → Q (.inl none) V D) ∧ ((0 : Int) ≤ i_0 → (((0 : Int) ≤ i2 ∧ i2 < (5 : Int)) ∧ (∀ V1 : xF, V1 = up2 V 100 i2.toNat i4 → Q (.inl none) V1 D)))) :
    RY d 325 45 [vr 390, vr 92, vi i2, vi i3, vi i4] [vi i_0] V D Q := yat (c := xk_325) (hd := []) (dk := []) (dv := [3250055]) (nb := [3250045]) rfl h
set_option maxRecDepth 20000 in
theorem u_325_72_92 {d : Nat} {i2 i3 i_0 : Int} {V : xF} {D : yD} {Q : xRes → xF → yD → Prop}
    (h : (i_0 < 0 → (((0 : Int) ≤ i2 ∧ i2 < (5 : Int)) ∧ (∀ V1 : xF, V1 = up2 V 100 i2.toNat ((-1)) → Q (.inl none) V1 D))) ∧ ((0 : Int) ≤ i_0 → (((0 : Int) ≤ i3 ∧ i3 < (5 : Int)) ∧ RY d 249 0 [vr 390, vr 92, vi i2, vi i3, vi (V 96 i3.toNat)] [] V D (yback d 325 88 [vr 390, vr 92, vi i2, vi i3, vr 0] [] Q)))) :
    RY d 325 72 [vr 390, vr 92, vi i2, vi i3, vr 0] [vi i_0] V D Q := yat (c := xk_325) (hd := []) (dk := []) (dv := [3250084, 3250097]) (nb := [3250072]) rfl h
set_option maxRecDepth 20000 in
theorem u_325_88_92 {d : Nat} {i2 i3 i_0 : Int} {V : xF} {D : yD} {Q : xRes → xF → yD → Prop}
    (h : (i_0 = 0 → Q (.inl none) V D) ∧ (i_0 ≠ 0 → (((0 : Int) ≤ i2 ∧ i2 < (5 : Int)) ∧ (∀ V1 : xF, V1 = up2 V 100 i2.toNat ((-1)) → Q (.inl none) V1 D)))) :
    RY d 325 88 [vr 390, vr 92, vi i2, vi i3, vr 0] [vi i_0] V D Q := yat (c := xk_325) (hd := []) (dk := []) (dv := [3250097]) (nb := [3250088]) rfl h
set_option maxRecDepth 20000 in
theorem u_327_0 {d : Nat} {i1 : Int} {V : xF} {D : yD} {Q : xRes → xF → yD → Prop}
    (h : yg_143 i1 2 V D ∧ (((yr_143 i1 2 V D) = ((-1)) → RY d 144 0 [vr 405, vi i1, vi 1, vr 0, vr 0, vr 0] [] V D (yback d 327 53 [vr 405, vi i1, vi (yr_143 i1 2 V D), vr 0] [] Q)) ∧ ((yr_143 i1 2 V D) ≠ ((-1)) → RY d 245 0 [vr 405, vi i1, vi (yr_143 i1 2 V D), vr 0, vr 0, vr 0, vr 0] [] V D (yback d 327 18 [vr 405, vi i1, vi (yr_143 i1 2 V D), vr 0] [] Q)))) :
    RY d 327 0 [vr 405, vi i1, vr 0, vr 0] [] V D Q := yat (c := xk_327) (hd := []) (dk := []) (dv := []) (nb := [3270009]) rfl h
set_option maxRecDepth 20000 in
theorem u_327_18 {d : Nat} {i1 i2 : Int} {V : xF} {D : yD} {Q : xRes → xF → yD → Prop}
    (h : ((V 405 17) < 0 → (((0 : Int) ≤ wr ((wr ((51 : Int) + (wr ((3 : Int) * i1)))) + 2) ∧ wr ((wr ((51 : Int) + (wr ((3 : Int) * i1)))) + 2) < (731 : Int)) ∧ (∀ V1 : xF, V1 = up2 V 406 ((wr ((wr ((51 : Int) + (wr ((3 : Int) * i1)))) + 2)).toNat) ((-1)) → Q (.inl none) V1 D))) ∧ ((0 : Int) ≤ (V 405 17) → (((V 405 18) = 0 → Q (.inl none) V D) ∧ ((V 405 18) ≠ 0 → (((0 : Int) ≤ wr ((wr ((51 : Int) + (wr ((3 : Int) * i1)))) + 2) ∧ wr ((wr ((51 : Int) + (wr ((3 : Int) * i1)))) + 2) < (731 : Int)) ∧ (∀ V2 : xF, V2 = up2 V 406 ((wr ((wr ((51 : Int) + (wr ((3 : Int) * i1)))) + 2)).toNat) ((-1)) → Q (.inl none) V2 D)))))) :
    RY d 327 18 [vr 405, vi i1, vi i2, vr 0] [] V D Q := yat (c := xk_327) (hd := []) (dk := []) (dv := [3270045]) (nb := [3270022, 3270029]) rfl h
set_option maxRecDepth 20000 in
theorem u_327_53 {d : Nat} {i1 i2 i_0 : Int} {V : xF} {D : yD} {Q : xRes → xF → yD → Prop}
    (h : (i_0 = ((-1)) → Q (.inl none) V D) ∧ (i_0 ≠ ((-1)) → RY d 147 0 [vr 405, vi i1, vi i_0] [] V D (yback d 327 65 [vr 405, vi i1, vi i2, vi i_0] [] Q))) :
    RY d 327 53 [vr 405, vi i1, vi i2, vr 0] [vi i_0] V D Q := yat (c := xk_327) (hd := []) (dk := []) (dv := []) (nb := [3270056]) rfl h
set_option maxRecDepth 20000 in
theorem u_327_65 {d : Nat} {i1 i2 i3 i_0 : Int} {V : xF} {D : yD} {Q : xRes → xF → yD → Prop}
    (h : (i_0 < 0 → Q (.inl none) V D) ∧ ((0 : Int) ≤ i_0 → (((0 : Int) ≤ wr ((wr ((51 : Int) + (wr ((3 : Int) * i1)))) + 2) ∧ wr ((wr ((51 : Int) + (wr ((3 : Int) * i1)))) + 2) < (731 : Int)) ∧ (∀ V1 : xF, V1 = up2 V 406 ((wr ((wr ((51 : Int) + (wr ((3 : Int) * i1)))) + 2)).toNat) i3 → Q (.inl none) V1 D)))) :
    RY d 327 65 [vr 405, vi i1, vi i2, vi i3] [vi i_0] V D Q := yat (c := xk_327) (hd := []) (dk := []) (dv := [3270081]) (nb := [3270065]) rfl h
set_option maxRecDepth 20000 in
theorem u_330_0 {d : Nat} {i1 : Int} {V : xF} {D : yD} {Q : xRes → xF → yD → Prop}
    (h : RY d 330 2 [vr 256, vi i1, vi 0] [] V D Q) :
    RY d 330 0 [vr 256, vi i1, vr 0] [] V D Q := yat (c := xk_330) (hd := [3300002]) (dk := []) (dv := []) (nb := []) rfl h
set_option maxRecDepth 20000 in
theorem u_330_2 {d : Nat} {i1 i2 : Int} {V : xF} {D : yD} {Q : xRes → xF → yD → Prop}
    (h : (i1 ≤ i2 → Q (.inl (some (vi i1))) V D) ∧ (i2 < i1 → (((0 : Int) ≤ i2 ∧ i2 < (121 : Int)) ∧ (((V 379 i2.toNat) ≠ i2 → RY d 330 2 [vr 256, vi i1, vi (wr (i2 + 1))] [] V D Q) ∧ ((V 379 i2.toNat) = i2 → ((24 ≤ (yK D.2.2.1 257).1 ∧ (yK D.2.2.1 257).1 ≤ 25) ∧ ((0 : Int) ≤ i2 ∧ i2 < (121 : Int)) ∧ yR D.2.1 D.2.2.1 257 i2.toNat ≠ 0 ∧ (∀ q1 : Nat, q1 = yR D.2.1 D.2.2.1 257 i2.toNat → ((24 ≤ (yK D.2.2.1 257).1 ∧ (yK D.2.2.1 257).1 ≤ 25) ∧ ((0 : Int) ≤ i1 ∧ i1 < (121 : Int)) ∧ yR D.2.1 D.2.2.1 257 i1.toNat ≠ 0 ∧ (∀ q2 : Nat, q2 = yR D.2.1 D.2.2.1 257 i1.toNat → RY d 334 0 [vr q1, vr q2, vr 0] [] V D (yback d 330 32 [vr 256, vi i1, vi i2] [] Q)))))))))) :
    RY d 330 2 [vr 256, vi i1, vi i2] [] V D Q := yat (c := xk_330) (hd := [3300002]) (dk := [3300022, 3300028]) (dv := [3300012, 3300022, 3300028]) (nb := [3300004, 3300014]) rfl h
set_option maxRecDepth 20000 in
theorem u_330_32 {d : Nat} {i1 i2 i_0 : Int} {V : xF} {D : yD} {Q : xRes → xF → yD → Prop}
    (h : (i_0 ≠ 0 → RY d 330 2 [vr 256, vi i1, vi (wr (i2 + 1))] [] V D Q) ∧ (i_0 = 0 → Q (.inl (some (vi i2))) V D)) :
    RY d 330 32 [vr 256, vi i1, vi i2] [vi i_0] V D Q := yat (c := xk_330) (hd := [3300002]) (dk := []) (dv := []) (nb := [3300032]) rfl h
set_option maxRecDepth 20000 in
theorem u_331_0_81 {d : Nat} {i2 i3 : Int} {V : xF} {D : yD} {Q : xRes → xF → yD → Prop}
    (h : RY d 286 0 [vr 381, vi 0, vr 0, vr 0] [] V D (yback d 331 11 [vr 256, vr 81, vi i2, vi i3, vi 0, vr 0, vr 0, vr 0] [] Q)) :
    RY d 331 0 [vr 256, vr 81, vi i2, vi i3, vr 0, vr 0, vr 0, vr 0] [] V D Q := yat (c := xk_331) (hd := [3310014]) (dk := []) (dv := []) (nb := []) rfl h
set_option maxRecDepth 20000 in
theorem u_331_11_81 {d : Nat} {i2 i3 i4 : Int} {V : xF} {D : yD} {Q : xRes → xF → yD → Prop}
    (h : RY d 331 14 [vr 256, vr 81, vi i2, vi i3, vi i4, vi 0, vr 0, vr 0] [] V D Q) :
    RY d 331 11 [vr 256, vr 81, vi i2, vi i3, vi i4, vr 0, vr 0, vr 0] [] V D Q := yat (c := xk_331) (hd := [3310014]) (dk := []) (dv := []) (nb := []) rfl h
set_option maxRecDepth 20000 in
theorem u_331_14_81 {d : Nat} {i2 i3 i4 i5 : Int} {v6 v7 : xV} {V : xF} {D : yD} {Q : xRes → xF → yD → Prop}
    (h : yg_314_81 i2 V D ∧ (((yr_314_81 i2 V D) ≤ i5 → Q (.inl (some (vi i4))) V D) ∧ (i5 < (yr_314_81 i2 V D) → (((0 : Int) ≤ i5 ∧ i5 < (121 : Int)) ∧ (((V 380 i5.toNat) = 0 → RY d 331 14 [vr 256, vr 81, vi i2, vi i3, vi i4, vi (wr (i5 + 1)), v6, v7] [] V D Q) ∧ ((V 380 i5.toNat) ≠ 0 → (yg_315_81 i2 i5 V D ∧ RY d 260 0 [vr 81, vi i2, vi (yr_315_81 i2 i5 V D), vi i3, vr 0, vr 0] [] V D (yback d 331 47 [vr 256, vr 81, vi i2, vi i3, vi i4, vi i5, v6, v7] [] Q)))))))) :
    RY d 331 14 [vr 256, vr 81, vi i2, vi i3, vi i4, vi i5, v6, v7] [] V D Q := yat (c := xk_331) (hd := [3310014]) (dk := []) (dv := [3310030]) (nb := [3310021, 3310031]) rfl h
set_option maxRecDepth 20000 in
theorem u_331_47_81 {d : Nat} {i2 i3 i4 i5 i_0 : Int} {v6 v7 : xV} {V : xF} {D : yD} {Q : xRes → xF → yD → Prop}
    (h : (i_0 ≠ ((-1)) → (yg_368_81 i2 i_0 V D ∧ ((0 : Int) ≤ yr_368_81 i2 i_0 V D ∧ yr_368_81 i2 i_0 V D < (121 : Int)) ∧ ((0 : Int) ≤ V 379 ((yr_368_81 i2 i_0 V D).toNat) ∧ V 379 ((yr_368_81 i2 i_0 V D).toNat) < (122 : Int)) ∧ ((0 : Int) ≤ V 379 ((yr_368_81 i2 i_0 V D).toNat) ∧ V 379 ((yr_368_81 i2 i_0 V D).toNat) < (122 : Int)) ∧ (∀ V1 : xF, V1 = up2 V 381 ((V 379 ((yr_368_81 i2 i_0 V D).toNat)).toNat) (wr ((V 381 ((V 379 ((yr_368_81 i2 i_0 V D).toNat)).toNat)) + 1)) → (((0 : Int) ≤ V 379 ((yr_368_81 i2 i_0 V D).toNat) ∧ V 379 ((yr_368_81 i2 i_0 V D).toNat) < (122 : Int)) ∧ RY d 331 14 [vr 256, vr 81, vi i2, vi i3, vi (yr_292 i4 (V1 381 ((V 379 ((yr_368_81 i2 i_0 V D).toNat)).toNat)) V1 D), vi (wr (i5 + 1)), vi i_0, vi (V 379 ((yr_368_81 i2 i_0 V D).toNat))] [] V1 D Q)))) ∧ (i_0 = ((-1)) → (((0 : Int) ≤ 121 ∧ 121 < (122 : Int)) ∧ ((0 : Int) ≤ 121 ∧ 121 < (122 : Int)) ∧ (∀ V2 : xF, V2 = up2 V 381 121 (wr ((V 381 121) + 1)) → (((0 : Int) ≤ 121 ∧ 121 < (122 : Int)) ∧ RY d 331 14 [vr 256, vr 81, vi i2, vi i3, vi (yr_292 i4 (V2 381 121) V2 D), vi (wr (i5 + 1)), vi i_0, vi 121] [] V2 D Q))))) :
    RY d 331 47 [vr 256, vr 81, vi i2, vi i3, vi i4, vi i5, v6, v7] [vi i_0] V D Q := yat (c := xk_331) (hd := [3310014]) (dk := []) (dv := [3310071, 3310081, 3310084, 3310093]) (nb := [3310052]) rfl h
set_option maxRecDepth 20000 in
theorem u_332_0 {d : Nat} {a0 : Nat} {V : xF} {D : yD} {Q : xRes → xF → yD → Prop}
    (h : RY d 332 4 [vr a0, vl 0, vr 0, vi 0] [] V D Q) :
    RY d 332 0 [vr a0, vr 0, vr 0, vr 0] [] V D Q := yat (c := xk_332) (hd := [3320004]) (dk := []) (dv := []) (nb := []) rfl h
set_option maxRecDepth 20000 in
theorem u_332_4 {d : Nat} {a0 : Nat} {i3 : Int} {l1 : Int} {V : xF} {D : yD} {Q : xRes → xF → yD → Prop}
    (h : ((48 : Int) ≤ i3 → Q (.inl (some (vl l1))) V D) ∧ (i3 < 48 → (a0 ≠ 0 ∧ (20 ≤ (yK D.2.2.1 a0).1 ∧ (yK D.2.2.1 a0).1 ≤ 21) ∧ ((0 : Int) ≤ i3 ∧ i3 < ((yK D.2.2.1 a0).2 : Int)) ∧ (((V a0 i3.toNat) ≤ 0 → RY d 332 4 [vr a0, vl l1, vr 0, vi (wr (i3 + 1))] [] V D Q) ∧ ((0 : Int) < (V a0 i3.toNat) → RY d 332 4 [vr a0, vl (xlor l1 (xlshl 1 i3)), vr 0, vi (wr (i3 + 1))] [] V D Q))))) :
    RY d 332 4 [vr a0, vl l1, vr 0, vi i3] [] V D Q := yat (c := xk_332) (hd := [3320004]) (dk := [3320010, 3320012]) (dv := [3320012]) (nb := [3320007, 3320013]) rfl h
set_option maxRecDepth 20000 in
theorem u_333_0_81 {d : Nat} {i2 i3 i4 i5 : Int} {V : xF} {D : yD} {Q : xRes → xF → yD → Prop}
    (h : ((0 : Int) ≤ i2 ∧ i2 < (5 : Int)) ∧ ((0 : Int) ≤ i2 ∧ i2 < (5 : Int)) ∧ ((0 : Int) ≤ i3 ∧ i3 < (5 : Int)) ∧ ((0 : Int) ≤ i3 ∧ i3 < (5 : Int)) ∧ yg_328_81 i2 (wr ((wr ((V 82 i2.toNat).tdiv 2)) + i4)) (wr ((wr ((V 83 i2.toNat).tdiv 2)) + i5)) V D ∧ (((yr_328_81 i2 (wr ((wr ((V 82 i2.toNat).tdiv 2)) + i4)) (wr ((wr ((V 83 i2.toNat).tdiv 2)) + i5)) V D) = 0 → Q (.inl (some (vi 0))) V D) ∧ ((yr_328_81 i2 (wr ((wr ((V 82 i2.toNat).tdiv 2)) + i4)) (wr ((wr ((V 83 i2.toNat).tdiv 2)) + i5)) V D) ≠ 0 → (yg_328_81 i3 (wr ((wr ((V 82 i3.toNat).tdiv 2)) + i4)) (wr ((wr ((V 83 i3.toNat).tdiv 2)) + i5)) V D ∧ (((yr_328_81 i3 (wr ((wr ((V 82 i3.toNat).tdiv 2)) + i4)) (wr ((wr ((V 83 i3.toNat).tdiv 2)) + i5)) V D) ≠ 0 → RY d 212 0 [vr 254, vr 81, vi i2, vi (yr_265 (wr ((wr ((V 82 i2.toNat).tdiv 2)) + i4)) (wr ((wr ((V 83 i2.toNat).tdiv 2)) + i5)) V D), vr 384, vr 0, vr 0, vr 0] [] V D (yback d 333 100 [vr 382, vr 81, vi i2, vi i3, vi i4, vi i5, vi (wr ((wr ((V 82 i2.toNat).tdiv 2)) + i4)), vi (wr ((wr ((V 83 i2.toNat).tdiv 2)) + i5)), vi (wr ((wr ((V 82 i3.toNat).tdiv 2)) + i4)), vi (wr ((wr ((V 83 i3.toNat).tdiv 2)) + i5))] [] Q)) ∧ ((yr_328_81 i3 (wr ((wr ((V 82 i3.toNat).tdiv 2)) + i4)) (wr ((wr ((V 83 i3.toNat).tdiv 2)) + i5)) V D) = 0 → Q (.inl (some (vi 0))) V D)))))) :
    RY d 333 0 [vr 382, vr 81, vi i2, vi i3, vi i4, vi i5, vr 0, vr 0, vr 0, vr 0] [] V D Q := yat (c := xk_333) (hd := []) (dk := []) (dv := [3330005, 3330018, 3330031, 3330044]) (nb := [3330061, 3330073]) rfl h
set_option maxRecDepth 20000 in
theorem u_333_100_81 {d : Nat} {i2 i3 i4 i5 i6 i7 i8 i9 : Int} {V : xF} {D : yD} {Q : xRes → xF → yD → Prop}
    (h : RY d 212 0 [vr 254, vr 81, vi i3, vi (yr_265 i8 i9 V D), vr 385, vr 0, vr 0, vr 0] [] V D (yback d 333 122 [vr 382, vr 81, vi i2, vi i3, vi i4, vi i5, vi i6, vi i7, vi i8, vi i9] [] Q)) :
    RY d 333 100 [vr 382, vr 81, vi i2, vi i3, vi i4, vi i5, vi i6, vi i7, vi i8, vi i9] [] V D Q := yat (c := xk_333) (hd := []) (dk := []) (dv := []) (nb := []) rfl h
set_option maxRecDepth 20000 in
theorem u_333_122_81 {d : Nat} {i2 i3 i4 i5 i6 i7 i8 i9 : Int} {V : xF} {D : yD} {Q : xRes → xF → yD → Prop}
    (h : RY d 334 0 [vr 384, vr 385, vr 0] [] V D (yback d 333 137 [vr 382, vr 81, vi i2, vi i3, vi i4, vi i5, vi i6, vi i7, vi i8, vi i9] [] Q)) :
    RY d 333 122 [vr 382, vr 81, vi i2, vi i3, vi i4, vi i5, vi i6, vi i7, vi i8, vi i9] [] V D Q := yat (c := xk_333) (hd := []) (dk := []) (dv := []) (nb := []) rfl h
set_option maxRecDepth 20000 in
theorem u_333_137_81 {d : Nat} {i2 i3 i4 i5 i6 i7 i8 i9 i_0 : Int} {V : xF} {D : yD} {Q : xRes → xF → yD → Prop}
    (h : (i_0 = 0 ∨ i_0 = 1) ∧ Q (.inl (some (vi i_0))) V D) :
    RY d 333 137 [vr 382, vr 81, vi i2, vi i3, vi i4, vi i5, vi i6, vi i7, vi i8, vi i9] [vi i_0] V D Q := yat (c := xk_333) (hd := []) (dk := []) (dv := [3330137]) (nb := []) rfl h
set_option maxRecDepth 20000 in
theorem u_334_0 {d : Nat} {a0 a1 : Nat} {V : xF} {D : yD} {Q : xRes → xF → yD → Prop}
    (h : RY d 334 2 [vr a0, vr a1, vi 0] [] V D Q) :
    RY d 334 0 [vr a0, vr a1, vr 0] [] V D Q := yat (c := xk_334) (hd := [3340002]) (dk := []) (dv := []) (nb := []) rfl h
set_option maxRecDepth 20000 in
theorem u_334_2 {d : Nat} {a0 a1 : Nat} {i2 : Int} {V : xF} {D : yD} {Q : xRes → xF → yD → Prop}
    (h : ((48 : Int) ≤ i2 → Q (.inl (some (vi 0))) V D) ∧ (i2 < 48 → (a0 ≠ 0 ∧ (20 ≤ (yK D.2.2.1 a0).1 ∧ (yK D.2.2.1 a0).1 ≤ 21) ∧ ((0 : Int) ≤ i2 ∧ i2 < ((yK D.2.2.1 a0).2 : Int)) ∧ a1 ≠ 0 ∧ (20 ≤ (yK D.2.2.1 a1).1 ∧ (yK D.2.2.1 a1).1 ≤ 21) ∧ ((0 : Int) ≤ i2 ∧ i2 < ((yK D.2.2.1 a1).2 : Int)) ∧ (((V a0 i2.toNat) = (V a1 i2.toNat) → RY d 334 2 [vr a0, vr a1, vi (wr (i2 + 1))] [] V D Q) ∧ ((V a0 i2.toNat) ≠ (V a1 i2.toNat) → Q (.inl (some (vi 1))) V D))))) :
    RY d 334 2 [vr a0, vr a1, vi i2] [] V D Q := yat (c := xk_334) (hd := [3340002]) (dk := [3340008, 3340010, 3340011, 3340013]) (dv := [3340010, 3340013]) (nb := [3340005, 3340014]) rfl h
set_option maxRecDepth 20000 in
theorem u_335_0_92 {d : Nat} {i2 i3 : Int} {V : xF} {D : yD} {Q : xRes → xF → yD → Prop}
    (h : RY d 335 9 [vr 382, vr 92, vi i2, vi i3, vi 0, vi i3, vi 3] [] V D Q) :
    RY d 335 0 [vr 382, vr 92, vi i2, vi i3, vr 0, vr 0, vr 0] [] V D Q := yat (c := xk_335) (hd := [3350009]) (dk := []) (dv := []) (nb := []) rfl h
set_option maxRecDepth 20000 in
theorem u_335_9_92 {d : Nat} {i2 i3 i4 i5 i6 : Int} {V : xF} {D : yD} {Q : xRes → xF → yD → Prop}
    (h : (i6 < 0 → Q (.inl (some (vi i4))) V D) ∧ ((0 : Int) ≤ i6 → (((0 : Int) ≤ wr ((wr ((4 : Int) * i2)) + i6) ∧ wr ((wr ((4 : Int) * i2)) + i6) < (20 : Int)) ∧ (∀ V1 : xF, V1 = up2 V 95 ((wr ((wr ((4 : Int) * i2)) + i6)).toNat) (i5.tmod 5) → (((0 : Int) ≤ wr ((wr ((4 : Int) * i2)) + i6) ∧ wr ((wr ((4 : Int) * i2)) + i6) < (20 : Int)) ∧ ((0 : Int) ≤ i6 ∧ i6 < (4 : Int)) ∧ (((V1 95 ((wr ((wr ((4 : Int) * i2)) + i6)).toNat)) = (V1 389 i6.toNat) → RY d 335 9 [vr 382, vr 92, vi i2, vi i3, vi i4, vi (wr (i5.tdiv 5)), vi (wr (i6 + (-1)))] [] V1 D Q) ∧ ((V1 95 ((wr ((wr ((4 : Int) * i2)) + i6)).toNat)) ≠ (V1 389 i6.toNat) → RY d 335 9 [vr 382, vr 92, vi i2, vi i3, vi (wr (i4 + 1)), vi (wr (i5.tdiv 5)), vi (wr (i6 + (-1)))] [] V1 D Q))))))) :
    RY d 335 9 [vr 382, vr 92, vi i2, vi i3, vi i4, vi i5, vi i6] [] V D Q := yat (c := xk_335) (hd := [3350009]) (dk := []) (dv := [3350028, 3350045, 3350052]) (nb := [3350011, 3350053]) rfl h
set_option maxRecDepth 20000 in
theorem u_336_0_92 {d : Nat} {i2 : Int} {V : xF} {D : yD} {Q : xRes → xF → yD → Prop}
    (h : yg_211_92 i2 V D ∧ RY d 212 0 [vr 254, vr 92, vi i2, vi (yr_211_92 i2 V D), vr 384, vr 0, vr 0, vr 0] [] V D (yback d 336 20 [vr 382, vr 92, vi i2] [] Q)) :
    RY d 336 0 [vr 382, vr 92, vi i2] [] V D Q := yat (c := xk_336) (hd := []) (dk := []) (dv := []) (nb := []) rfl h
set_option maxRecDepth 20000 in
theorem u_336_20_92 {d : Nat} {i2 : Int} {V : xF} {D : yD} {Q : xRes → xF → yD → Prop}
    (h : RY d 334 0 [vr 384, vr 385, vr 0] [] V D (yback d 336 35 [vr 382, vr 92, vi i2] [] Q)) :
    RY d 336 20 [vr 382, vr 92, vi i2] [] V D Q := yat (c := xk_336) (hd := []) (dk := []) (dv := []) (nb := []) rfl h
set_option maxRecDepth 20000 in
theorem u_336_35_92 {d : Nat} {i2 i_0 : Int} {V : xF} {D : yD} {Q : xRes → xF → yD → Prop}
    (h : (i_0 ≠ 0 → Q (.inl (some (vi 0))) V D) ∧ (i_0 = 0 → Q (.inl (some (vi 1))) V D)) :
    RY d 336 35 [vr 382, vr 92, vi i2] [vi i_0] V D Q := yat (c := xk_336) (hd := []) (dk := []) (dv := []) (nb := [3360035]) rfl h
set_option maxRecDepth 20000 in
theorem u_337_0_81 {d : Nat} {i2 : Int} {V : xF} {D : yD} {Q : xRes → xF → yD → Prop}
    (h : RY d 337 5 [vr 390, vr 81, vi i2, vi 0, vi 0] [] V D Q) :
    RY d 337 0 [vr 390, vr 81, vi i2, vr 0, vr 0] [] V D Q := yat (c := xk_337) (hd := [3370005]) (dk := []) (dv := []) (nb := []) rfl h
set_option maxRecDepth 20000 in
theorem u_337_5_81 {d : Nat} {i2 i3 i4 : Int} {V : xF} {D : yD} {Q : xRes → xF → yD → Prop}
    (h : ((V 81 0) ≤ i4 → Q (.inl (some (vi i3))) V D) ∧ (i4 < (V 81 0) → (((0 : Int) ≤ i4 ∧ i4 < (5 : Int)) ∧ RY d 249 0 [vr 390, vr 81, vi i2, vi i4, vi (V 85 i4.toNat)] [] V D (yback d 337 29 [vr 390, vr 81, vi i2, vi i3, vi i4] [] Q)))) :
    RY d 337 5 [vr 390, vr 81, vi i2, vi i3, vi i4] [] V D Q := yat (c := xk_337) (hd := [3370005]) (dk := []) (dv := [3370025]) (nb := [3370011]) rfl h
set_option maxRecDepth 20000 in
theorem u_337_29_81 {d : Nat} {i2 i3 i4 i_0 : Int} {V : xF} {D : yD} {Q : xRes → xF → yD → Prop}
    (h : (i_0 = 0 → RY d 337 5 [vr 390, vr 81, vi i2, vi i3, vi (wr (i4 + 1))] [] V D Q) ∧ (i_0 ≠ 0 → RY d 337 5 [vr 390, vr 81, vi i2, vi (xor_ i3 (xshl 1 i4)), vi (wr (i4 + 1))] [] V D Q)) :
    RY d 337 29 [vr 390, vr 81, vi i2, vi i3, vi i4] [vi i_0] V D Q := yat (c := xk_337) (hd := [3370005]) (dk := []) (dv := []) (nb := [3370029]) rfl h
set_option maxRecDepth 20000 in
theorem u_338_0_81 {d : Nat} {i2 : Int} {V : xF} {D : yD} {Q : xRes → xF → yD → Prop}
    (h : RY d 338 8 [vr 390, vr 81, vi i2, vi 0, vi ((-1)), vi 0, vr 0, vr 0] [] V D Q) :
    RY d 338 0 [vr 390, vr 81, vi i2, vr 0, vr 0, vr 0, vr 0, vr 0] [] V D Q := yat (c := xk_338) (hd := [3380008, 3380031]) (dk := []) (dv := []) (nb := []) rfl h
set_option maxRecDepth 20000 in
theorem u_338_8_81 {d : Nat} {i2 i3 i4 i5 : Int} {v6 v7 : xV} {V : xF} {D : yD} {Q : xRes → xF → yD → Prop}
    (h : (i2 < i5 → Q (.inl (some (vi i4))) V D) ∧ (i5 ≤ i2 → RY d 337 0 [vr 390, vr 81, vi i5, vr 0, vr 0] [] V D (yback d 338 21 [vr 390, vr 81, vi i2, vi i3, vi i4, vi i5, v6, v7] [] Q))) :
    RY d 338 8 [vr 390, vr 81, vi i2, vi i3, vi i4, vi i5, v6, v7] [] V D Q := yat (c := xk_338) (hd := [3380008, 3380031]) (dk := []) (dv := []) (nb := [3380011]) rfl h
set_option maxRecDepth 20000 in
theorem u_338_21_81 {d : Nat} {i2 i3 i4 i5 i_0 : Int} {v6 v7 : xV} {V : xF} {D : yD} {Q : xRes → xF → yD → Prop}
    (h : RY d 338 31 [vr 390, vr 81, vi i2, vi i3, vi ((-1)), vi i5, vi (xor_ i_0 i3), vi 0] [] V D Q) :
    RY d 338 21 [vr 390, vr 81, vi i2, vi i3, vi i4, vi i5, v6, v7] [vi i_0] V D Q := yat (c := xk_338) (hd := [3380008, 3380031]) (dk := []) (dv := []) (nb := []) rfl h
set_option maxRecDepth 20000 in
theorem u_338_31_81 {d : Nat} {i2 i3 i4 i5 i6 i7 : Int} {V : xF} {D : yD} {Q : xRes → xF → yD → Prop}
    (h : ((V 81 0) ≤ i7 → ((i4 ≠ ((-1)) → RY d 338 8 [vr 390, vr 81, vi i2, vi (xor_ i3 (xshl 1 i4)), vi i4, vi (wr (i5 + 1)), vi i6, vi i7] [] V D Q) ∧ (i4 = ((-1)) → RY d 338 8 [vr 390, vr 81, vi i2, vi (xor_ i3 0), vi i4, vi (wr (i5 + 1)), vi i6, vi i7] [] V D Q))) ∧ (i7 < (V 81 0) → ((24 ≤ (yK D.2.2.1 395).1 ∧ (yK D.2.2.1 395).1 ≤ 25) ∧ ((0 : Int) ≤ wr (i5 + 1) ∧ wr (i5 + 1) < (6 : Int)) ∧ yR D.2.1 D.2.2.1 395 ((wr (i5 + 1)).toNat) ≠ 0 ∧ (∀ q1 : Nat, q1 = yR D.2.1 D.2.2.1 395 ((wr (i5 + 1)).toNat) → ((20 ≤ (yK D.2.2.1 q1).1 ∧ (yK D.2.2.1 q1).1 ≤ 21) ∧ ((0 : Int) ≤ i3 ∧ i3 < ((yK D.2.2.1 q1).2 : Int)) ∧ (24 ≤ (yK D.2.2.1 395).1 ∧ (yK D.2.2.1 395).1 ≤ 25) ∧ ((0 : Int) ≤ i5 ∧ i5 < (6 : Int)) ∧ yR D.2.1 D.2.2.1 395 i5.toNat ≠ 0 ∧ (∀ q2 : Nat, q2 = yR D.2.1 D.2.2.1 395 i5.toNat → ((20 ≤ (yK D.2.2.1 q2).1 ∧ (yK D.2.2.1 q2).1 ≤ 21) ∧ ((0 : Int) ≤ i3 ∧ i3 < ((yK D.2.2.1 q2).2 : Int)) ∧ (((V q2 i3.toNat) ≤ (V q1 i3.toNat) → ((i4 ≠ ((-1)) → RY d 338 8 [vr 390, vr 81, vi i2, vi (xor_ i3 (xshl 1 i4)), vi i4, vi (wr (i5 + 1)), vi i6, vi i7] [] V D Q) ∧ (i4 = ((-1)) → RY d 338 8 [vr 390, vr 81, vi i2, vi (xor_ i3 0), vi i4, vi (wr (i5 + 1)), vi i6, vi i7] [] V D Q))) ∧ ((V q1 i3.toNat) < (V q2 i3.toNat) → ((i4 ≠ ((-1)) → ((i4 ≠ ((-1)) → RY d 338 8 [vr 390, vr 81, vi i2, vi (xor_ i3 (xshl 1 i4)), vi i4, vi (wr (i5 + 1)), vi i6, vi i7] [] V D Q) ∧ (i4 = ((-1)) → RY d 338 8 [vr 390, vr 81, vi i2, vi (xor_ i3 0), vi i4, vi (wr (i5 + 1)), vi i6, vi i7] [] V D Q))) ∧ (i4 = ((-1)) → (((xand (xshr i6 i7) 1) ≠ 0 → RY d 338 31 [vr 390, vr 81, vi i2, vi i3, vi i4, vi i5, vi i6, vi (wr (i7 + 1))] [] V D Q) ∧ ((xand (xshr i6 i7) 1) = 0 → (((0 : Int) ≤ i7 ∧ i7 < (5 : Int)) ∧ (24 ≤ (yK D.2.2.1 395).1 ∧ (yK D.2.2.1 395).1 ≤ 25) ∧ ((0 : Int) ≤ wr (i5 + 1) ∧ wr (i5 + 1) < (6 : Int)) ∧ yR D.2.1 D.2.2.1 395 ((wr (i5 + 1)).toNat) ≠ 0 ∧ (∀ q3 : Nat, q3 = yR D.2.1 D.2.2.1 395 ((wr (i5 + 1)).toNat) → ((20 ≤ (yK D.2.2.1 q3).1 ∧ (yK D.2.2.1 q3).1 ≤ 21) ∧ ((0 : Int) ≤ xor_ i3 (xshl 1 i7) ∧ xor_ i3 (xshl 1 i7) < ((yK D.2.2.1 q3).2 : Int)) ∧ (24 ≤ (yK D.2.2.1 395).1 ∧ (yK D.2.2.1 395).1 ≤ 25) ∧ ((0 : Int) ≤ i5 ∧ i5 < (6 : Int)) ∧ yR D.2.1 D.2.2.1 395 i5.toNat ≠ 0 ∧ (∀ q4 : Nat, q4 = yR D.2.1 D.2.2.1 395 i5.toNat → ((20 ≤ (yK D.2.2.1 q4).1 ∧ (yK D.2.2.1 q4).1 ≤ 21) ∧ ((0 : Int) ≤ i3 ∧ i3 < ((yK D.2.2.1 q4).2 : Int)) ∧ (((wr ((V 85 i7.toNat) + (V q3 ((xor_ i3 (xshl 1 i7)).toNat)))) ≠ (V q4 i3.toNat) → RY d 338 31 [vr 390, vr 81, vi i2, vi i3, vi i4, vi i5, vi i6, vi (wr (i7 + 1))] [] V D Q) ∧ ((wr ((V 85 i7.toNat) + (V q3 ((xor_ i3 (xshl 1 i7)).toNat)))) = (V q4 i3.toNat) → RY d 338 31 [vr 390, vr 81, vi i2, vi i3, vi i7, vi i5, vi i6, vi (wr (i7 + 1))] [] V D Q)))))))))))))))))))) :
    RY d 338 31 [vr 390, vr 81, vi i2, vi i3, vi i4, vi i5, vi i6, vi i7] [] V D Q := yat (c := xk_338) (hd := [3380008, 3380031]) (dk := [3380048, 3380050, 3380057, 3380059, 3380094, 3380101, 3380109, 3380111]) (dv := [3380048, 3380050, 3380057, 3380059, 3380085, 3380094, 3380101, 3380109, 3380111]) (nb := [3380037, 3380060, 3380066, 3380076, 3380112, 3380129]) rfl h
set_option maxRecDepth 20000 in
theorem u_341_0 {d : Nat} {i2 : Int} {l0 : Int} {V : xF} {D : yD} {Q : xRes → xF → yD → Prop}
    (h : RY d 341 5 [vl l0, vr 0, vi i2, vl 1, vr 0, vi 0] [] V D Q) :
    RY d 341 0 [vl l0, vr 0, vi i2, vr 0, vr 0, vr 0] [] V D Q := yat (c := xk_341) (hd := [3410005]) (dk := []) (dv := []) (nb := []) rfl h
set_option maxRecDepth 20000 in
theorem u_341_5 {d : Nat} {i2 i5 : Int} {l0 l3 : Int} {V : xF} {D : yD} {Q : xRes → xF → yD → Prop}
    (h : (i2 ≤ i5 → Q (.inl (some (vl l3))) V D) ∧ (i5 < i2 → RY d 341 5 [vl l0, vr 0, vi i2, vl (wl (l3 * l0)), vr 0, vi (wr (i5 + 1))] [] V D Q)) :
    RY d 341 5 [vl l0, vr 0, vi i2, vl l3, vr 0, vi i5] [] V D Q := yat (c := xk_341) (hd := [3410005]) (dk := []) (dv := []) (nb := [3410008]) rfl h
set_option maxRecDepth 20000 in
theorem u_344_0 {d : Nat} {i0 i1 : Int} {V : xF} {D : yD} {Q : xRes → xF → yD → Prop}
    (h : RY d 344 24 [vi i0, vi i1, vi (wr ((wr (i0 * i0)) + (wr (i1 * i1)))), vi (yr_292 2 (yr_292 (yr_288 i0 V D) (yr_288 i1 V D) V D) V D)] [] V D Q) :
    RY d 344 0 [vi i0, vi i1, vr 0, vr 0] [] V D Q := yat (c := xk_344) (hd := [3440024]) (dk := []) (dv := []) (nb := []) rfl h
set_option maxRecDepth 20000 in
theorem u_344_24 {d : Nat} {i0 i1 i2 i3 : Int} {V : xF} {D : yD} {Q : xRes → xF → yD → Prop}
    (h : ((47 : Int) ≤ i3 → Q (.inl (some (vi (yr_291 i3 47 V D)))) V D) ∧ (i3 < 47 → ((i2 < (wr ((wr (i3 + 1)) * (wr (i3 + 1)))) → Q (.inl (some (vi (yr_291 i3 47 V D)))) V D) ∧ ((wr ((wr (i3 + 1)) * (wr (i3 + 1)))) ≤ i2 → RY d 344 24 [vi i0, vi i1, vi i2, vi (wr (i3 + 1))] [] V D Q)))) :
    RY d 344 24 [vi i0, vi i1, vi i2, vi i3] [] V D Q := yat (c := xk_344) (hd := [3440024]) (dk := []) (dv := []) (nb := [3440027, 3440038]) rfl h
set_option maxRecDepth 20000 in
theorem u_346_0 {d : Nat} {i1 i2 : Int} {V : xF} {D : yD} {Q : xRes → xF → yD → Prop}
    (h : RY d 346 2 [vr 254, vi i1, vi i2, vi 0] [] V D Q) :
    RY d 346 0 [vr 254, vi i1, vi i2, vr 0] [] V D Q := yat (c := xk_346) (hd := [3460002]) (dk := []) (dv := []) (nb := []) rfl h
set_option maxRecDepth 20000 in
theorem u_346_2 {d : Nat} {i1 i2 i3 : Int} {V : xF} {D : yD} {Q : xRes → xF → yD → Prop}
    (h : (i1 ≤ i3 → Q (.inl none) V D) ∧ (i3 < i1 → ∀ V1 : xF, V1 = up2 V 254 7 (wr ((wr ((V 254 7) * i2)).tdiv 10)) → RY d 346 2 [vr 254, vi i1, vi i2, vi (wr (i3 + 1))] [] V1 D Q)) :
    RY d 346 2 [vr 254, vi i1, vi i2, vi i3] [] V D Q := yat (c := xk_346) (hd := [3460002]) (dk := []) (dv := []) (nb := [3460004]) rfl h
set_option maxRecDepth 20000 in
theorem u_349_0 {d : Nat} {a1 : Nat} {V : xF} {D : yD} {Q : xRes → xF → yD → Prop}
    (h : ((0 : Int) ≤ V 76 5 ∧ V 76 5 < (401 : Int)) ∧ (((V 78 ((V 76 5).toNat)) ≠ 1 → Q (.inl (some (vi 0))) V D) ∧ ((V 78 ((V 76 5).toNat)) = 1 → (((0 : Int) ≤ V 76 5 ∧ V 76 5 < (401 : Int)) ∧ ((0 : Int) ≤ V 76 5 ∧ V 76 5 < (401 : Int)) ∧ a1 ≠ 0 ∧ (yK D.2.2.1 a1).1 = 26 ∧ Nat.ble 1 8 = true ∧ (((wr ((V 80 ((V 76 5).toNat)) - (V 79 ((V 76 5).toNat)))) = (((yK D.2.2.1 a1).2 : Int)) → RY d 349 43 [vr 76, vr a1, vi 0] [] V D Q) ∧ ((wr ((V 80 ((V 76 5).toNat)) - (V 79 ((V 76 5).toNat)))) ≠ (((yK D.2.2.1 a1).2 : Int)) → Q (.inl (some (vi 0))) V D)))))) :
    RY d 349 0 [vr 76, vr a1, vr 0] [] V D Q := yat (c := xk_349) (hd := [3490043]) (dk := [3490032, 3490033]) (dv := [3490008, 3490021, 3490030]) (nb := [3490010, 3490036]) rfl h
set_option maxRecDepth 20000 in
theorem u_349_43 {d : Nat} {a1 : Nat} {i2 : Int} {V : xF} {D : yD} {Q : xRes → xF → yD → Prop}
    (h : a1 ≠ 0 ∧ (yK D.2.2.1 a1).1 = 26 ∧ Nat.ble 1 8 = true ∧ (((((yK D.2.2.1 a1).2 : Int)) ≤ i2 → Q (.inl (some (vi 1))) V D) ∧ (i2 < (((yK D.2.2.1 a1).2 : Int)) → (((0 : Int) ≤ V 76 5 ∧ V 76 5 < (401 : Int)) ∧ ((0 : Int) ≤ wr ((V 79 ((V 76 5).toNat)) + i2) ∧ wr ((V 79 ((V 76 5).toNat)) + i2) < (400 : Int)) ∧ a1 ≠ 0 ∧ (yK D.2.2.1 a1).1 = 26 ∧ Nat.ble 1 8 = true ∧ ((0 : Int) ≤ i2 ∧ i2 < ((yK D.2.2.1 a1).2 : Int)) ∧ (((V 77 ((wr ((V 79 ((V 76 5).toNat)) + i2)).toNat)) = (V a1 i2.toNat) → RY d 349 43 [vr 76, vr a1, vi (wr (i2 + 1))] [] V D Q) ∧ ((V 77 ((wr ((V 79 ((V 76 5).toNat)) + i2)).toNat)) ≠ (V a1 i2.toNat) → Q (.inl (some (vi 0))) V D)))))) :
    RY d 349 43 [vr 76, vr a1, vi i2] [] V D Q := yat (c := xk_349) (hd := [3490043]) (dk := [3490044, 3490045, 3490067, 3490069]) (dv := [3490063, 3490066, 3490069]) (nb := [3490048, 3490072]) rfl h
set_option maxRecDepth 20000 in
theorem u_350_0_92 {d : Nat} {V : xF} {D : yD} {Q : xRes → xF → yD → Prop}
    (h : ((0 : Int) ≤ V 76 5 ∧ V 76 5 < (401 : Int)) ∧ (((V 78 ((V 76 5).toNat)) = 3 → RY d 362 0 [vr 76, vi 2, vi 12, vr 0] [] V D (yback d 350 22 [vr 247, vr 92, vi (V 92 0)] [] Q)) ∧ ((V 78 ((V 76 5).toNat)) ≠ 3 → ∀ V1 : xF, V1 = up2 V 76 5 (wr ((V 76 5) + 1)) → RY d 362 0 [vr 76, vi 2, vi 12, vr 0] [] V1 D (yback d 350 22 [vr 247, vr 92, vi (V 92 0)] [] Q)))) :
    RY d 350 0 [vr 247, vr 92, vr 0] [] V D Q := yat (c := xk_350) (hd := []) (dk := []) (dv := [3580008]) (nb := [3580010]) rfl h
set_option maxRecDepth 20000 in
theorem u_350_22_92 {d : Nat} {i2 i_0 : Int} {V : xF} {D : yD} {Q : xRes → xF → yD → Prop}
    (h : (i_0 ≠ 0 → (((0 : Int) ≤ i2 ∧ i2 < (5 : Int)) ∧ (∀ V1 : xF, V1 = up2 V 93 i2.toNat (V 76 6) → RY d 352 0 [vr 76, vr 4] [] V1 D (yback d 350 49 [vr 247, vr 92, vi i2] [] Q)))) ∧ (i_0 = 0 → Q (.inl (some (vi 0))) V D)) :
    RY d 350 22 [vr 247, vr 92, vi i2] [vi i_0] V D Q := yat (c := xk_350) (hd := []) (dk := []) (dv := [3500039]) (nb := [3500022]) rfl h
set_option maxRecDepth 20000 in
theorem u_350_49_92 {d : Nat} {i2 i_0 : Int} {V : xF} {D : yD} {Q : xRes → xF → yD → Prop}
    (h : (i_0 = 0 → Q (.inl (some (vi 0))) V D) ∧ (i_0 ≠ 0 → RY d 362 0 [vr 76, vi 2, vi 12, vr 0] [] V D (yback d 350 62 [vr 247, vr 92, vi i2] [] Q))) :
    RY d 350 49 [vr 247, vr 92, vi i2] [vi i_0] V D Q := yat (c := xk_350) (hd := []) (dk := []) (dv := []) (nb := [3500049]) rfl h
set_option maxRecDepth 20000 in
theorem u_350_62_92 {d : Nat} {i2 i_0 : Int} {V : xF} {D : yD} {Q : xRes → xF → yD → Prop}
    (h : (i_0 ≠ 0 → (((0 : Int) ≤ i2 ∧ i2 < (5 : Int)) ∧ (∀ V1 : xF, V1 = up2 V 94 i2.toNat (V 76 6) → RY d 352 0 [vr 76, vr 5] [] V1 D (yback d 350 89 [vr 247, vr 92, vi i2] [] Q)))) ∧ (i_0 = 0 → Q (.inl (some (vi 0))) V D)) :
    RY d 350 62 [vr 247, vr 92, vi i2] [vi i_0] V D Q := yat (c := xk_350) (hd := []) (dk := []) (dv := [3500079]) (nb := [3500062]) rfl h
set_option maxRecDepth 20000 in
theorem u_350_89_92 {d : Nat} {i2 i_0 : Int} {V : xF} {D : yD} {Q : xRes → xF → yD → Prop}
    (h : (i_0 = 0 → Q (.inl (some (vi 0))) V D) ∧ (i_0 ≠ 0 → RY d 369 0 [vr 247, vr 92, vi i2, vr 0, vr 0] [] V D (yback d 350 98 [vr 247, vr 92, vi i2] [] Q))) :
    RY d 350 89 [vr 247, vr 92, vi i2] [vi i_0] V D Q := yat (c := xk_350) (hd := []) (dk := []) (dv := []) (nb := [3500089]) rfl h
set_option maxRecDepth 20000 in
theorem u_350_98_92 {d : Nat} {i2 i_0 : Int} {V : xF} {D : yD} {Q : xRes → xF → yD → Prop}
    (h : (i_0 ≠ 0 → (((0 : Int) ≤ i2 ∧ i2 < (5 : Int)) ∧ (∀ V1 : xF, V1 = up2 V 96 i2.toNat 0 → RY d 352 0 [vr 76, vr 7] [] V1 D (yback d 350 119 [vr 247, vr 92, vi i2] [] Q)))) ∧ (i_0 = 0 → Q (.inl (some (vi 0))) V D)) :
    RY d 350 98 [vr 247, vr 92, vi i2] [vi i_0] V D Q := yat (c := xk_350) (hd := []) (dk := []) (dv := [3500109]) (nb := [3500098]) rfl h
set_option maxRecDepth 20000 in
theorem u_350_119_92 {d : Nat} {i2 i_0 : Int} {V : xF} {D : yD} {Q : xRes → xF → yD → Prop}
    (h : (i_0 = 0 → ∀ V1 : xF, V1 = up2 V 92 0 (wr ((V 92 0) + 1)) → Q (.inl (some (vi 1))) V1 D) ∧ (i_0 ≠ 0 → RY d 362 0 [vr 76, vi 0, vi 99, vr 0] [] V D (yback d 350 132 [vr 247, vr 92, vi i2] [] Q))) :
    RY d 350 119 [vr 247, vr 92, vi i2] [vi i_0] V D Q := yat (c := xk_350) (hd := []) (dk := []) (dv := []) (nb := [3500119]) rfl h
set_option maxRecDepth 20000 in
theorem u_350_132_92 {d : Nat} {i2 i_0 : Int} {V : xF} {D : yD} {Q : xRes → xF → yD → Prop}
    (h : (i_0 ≠ 0 → (((0 : Int) ≤ i2 ∧ i2 < (5 : Int)) ∧ (∀ V1 : xF, V1 = up2 V 96 i2.toNat (V 76 6) → ∀ V2 : xF, V2 = up2 V1 92 0 (wr ((V1 92 0) + 1)) → Q (.inl (some (vi 1))) V2 D))) ∧ (i_0 = 0 → Q (.inl (some (vi 0))) V D)) :
    RY d 350 132 [vr 247, vr 92, vi i2] [vi i_0] V D Q := yat (c := xk_350) (hd := []) (dk := []) (dv := [3500149]) (nb := [3500132]) rfl h
set_option maxRecDepth 20000 in
theorem u_351_0_92 {d : Nat} {V : xF} {D : yD} {Q : xRes → xF → yD → Prop}
    (h : ((0 : Int) ≤ V 76 5 ∧ V 76 5 < (401 : Int)) ∧ (((V 78 ((V 76 5).toNat)) = 3 → RY d 352 0 [vr 76, vr 9] [] V D (yback d 351 21 [vr 247, vr 92, vi (V 92 6), vr 0] [] Q)) ∧ ((V 78 ((V 76 5).toNat)) ≠ 3 → ∀ V1 : xF, V1 = up2 V 76 5 (wr ((V 76 5) + 1)) → RY d 352 0 [vr 76, vr 9] [] V1 D (yback d 351 21 [vr 247, vr 92, vi (V 92 6), vr 0] [] Q)))) :
    RY d 351 0 [vr 247, vr 92, vr 0, vr 0] [] V D Q := yat (c := xk_351) (hd := []) (dk := []) (dv := [3580008]) (nb := [3580010]) rfl h
set_option maxRecDepth 20000 in
theorem u_351_21_92 {d : Nat} {i2 i_0 : Int} {V : xF} {D : yD} {Q : xRes → xF → yD → Prop}
    (h : (i_0 = 0 → Q (.inl (some (vi 0))) V D) ∧ (i_0 ≠ 0 → RY d 362 0 [vr 76, vi 0, vi 99, vr 0] [] V D (yback d 351 34 [vr 247, vr 92, vi i2, vr 0] [] Q))) :
    RY d 351 21 [vr 247, vr 92, vi i2, vr 0] [vi i_0] V D Q := yat (c := xk_351) (hd := []) (dk := []) (dv := []) (nb := [3510021]) rfl h
set_option maxRecDepth 20000 in
theorem u_351_34_92 {d : Nat} {i2 i_0 : Int} {V : xF} {D : yD} {Q : xRes → xF → yD → Prop}
    (h : (i_0 ≠ 0 → (((0 : Int) ≤ i2 ∧ i2 < (5 : Int)) ∧ (∀ V1 : xF, V1 = up2 V 98 i2.toNat (V 76 6) → RY d 352 0 [vr 76, vr 10] [] V1 D (yback d 351 61 [vr 247, vr 92, vi i2, vr 0] [] Q)))) ∧ (i_0 = 0 → Q (.inl (some (vi 0))) V D)) :
    RY d 351 34 [vr 247, vr 92, vi i2, vr 0] [vi i_0] V D Q := yat (c := xk_351) (hd := []) (dk := []) (dv := [3510051]) (nb := [3510034]) rfl h
set_option maxRecDepth 20000 in
theorem u_351_61_92 {d : Nat} {i2 i_0 : Int} {V : xF} {D : yD} {Q : xRes → xF → yD → Prop}
    (h : (i_0 = 0 → Q (.inl (some (vi 0))) V D) ∧ (i_0 ≠ 0 → RY d 362 0 [vr 76, vi 0, vi 9, vr 0] [] V D (yback d 351 74 [vr 247, vr 92, vi i2, vr 0] [] Q))) :
    RY d 351 61 [vr 247, vr 92, vi i2, vr 0] [vi i_0] V D Q := yat (c := xk_351) (hd := []) (dk := []) (dv := []) (nb := [3510061]) rfl h
set_option maxRecDepth 20000 in
theorem u_351_74_92 {d : Nat} {i2 i_0 : Int} {V : xF} {D : yD} {Q : xRes → xF → yD → Prop}
    (h : (i_0 ≠ 0 → (((0 : Int) ≤ i2 ∧ i2 < (5 : Int)) ∧ (∀ V1 : xF, V1 = up2 V 99 i2.toNat (V 76 6) → (((0 : Int) ≤ i2 ∧ i2 < (5 : Int)) ∧ (∀ V2 : xF, V2 = up2 V1 100 i2.toNat ((-1)) → RY d 352 0 [vr 76, vr 11] [] V2 D (yback d 351 108 [vr 247, vr 92, vi i2, vr 0] [] Q)))))) ∧ (i_0 = 0 → Q (.inl (some (vi 0))) V D)) :
    RY d 351 74 [vr 247, vr 92, vi i2, vr 0] [vi i_0] V D Q := yat (c := xk_351) (hd := []) (dk := []) (dv := [3510091, 3510098]) (nb := [3510074]) rfl h
set_option maxRecDepth 20000 in
theorem u_351_108_92 {d : Nat} {i2 i_0 : Int} {V : xF} {D : yD} {Q : xRes → xF → yD → Prop}
    (h : (i_0 = 0 → ∀ V1 : xF, V1 = up2 V 92 6 (wr ((V 92 6) + 1)) → Q (.inl (some (vi 1))) V1 D) ∧ (i_0 ≠ 0 → RY d 370 0 [vr 76, vr 0, vr 0] [] V D (yback d 351 118 [vr 247, vr 92, vi i2, vr 0] [] Q))) :
    RY d 351 108 [vr 247, vr 92, vi i2, vr 0] [vi i_0] V D Q := yat (c := xk_351) (hd := []) (dk := []) (dv := []) (nb := [3510108]) rfl h
set_option maxRecDepth 20000 in
theorem u_351_118_92 {d : Nat} {i2 i_0 : Int} {V : xF} {D : yD} {Q : xRes → xF → yD → Prop}
    (h : (i_0 = ((-1)) → Q (.inl (some (vi 0))) V D) ∧ (i_0 ≠ ((-1)) → RY d 236 0 [vr 92, vi i_0, vr 0] [] V D (yback d 351 129 [vr 247, vr 92, vi i2, vi i_0] [] Q))) :
    RY d 351 118 [vr 247, vr 92, vi i2, vr 0] [vi i_0] V D Q := yat (c := xk_351) (hd := []) (dk := []) (dv := []) (nb := [3510121]) rfl h
set_option maxRecDepth 20000 in
theorem u_351_129_92 {d : Nat} {i2 i3 i_0 : Int} {V : xF} {D : yD} {Q : xRes → xF → yD → Prop}
    (h : (i_0 ≠ ((-1)) → Q (.inl (some (vi 0))) V D) ∧ (i_0 = ((-1)) → RY d 362 0 [vr 76, vi 0, vi (wr ((V 92 0) - 1)), vr 0] [] V D (yback d 351 147 [vr 247, vr 92, vi i2, vi i3] [] Q))) :
    RY d 351 129 [vr 247, vr 92, vi i2, vi i3] [vi i_0] V D Q := yat (c := xk_351) (hd := []) (dk := []) (dv := []) (nb := [3510130]) rfl h
set_option maxRecDepth 20000 in
theorem u_351_147_92 {d : Nat} {i2 i3 i_0 : Int} {V : xF} {D : yD} {Q : xRes → xF → yD → Prop}
    (h : (i_0 ≠ 0 → (((0 : Int) ≤ i2 ∧ i2 < (5 : Int)) ∧ (∀ V1 : xF, V1 = up2 V 100 i2.toNat i3 → ∀ V2 : xF, V2 = up2 V1 92 6 (wr ((V1 92 6) + 1)) → Q (.inl (some (vi 1))) V2 D))) ∧ (i_0 = 0 → Q (.inl (some (vi 0))) V D)) :
    RY d 351 147 [vr 247, vr 92, vi i2, vi i3] [vi i_0] V D Q := yat (c := xk_351) (hd := []) (dk := []) (dv := [3510158]) (nb := [3510147]) rfl h
set_option maxRecDepth 20000 in
theorem u_352_0 {d : Nat} {a1 : Nat} {V : xF} {D : yD} {Q : xRes → xF → yD → Prop}
    (h : a1 ≠ 0 ∧ RY d 349 0 [vr 76, vr a1, vr 0] [] V D (yback d 352 5 [vr 76, vr a1] [] Q)) :
    RY d 352 0 [vr 76, vr a1] [] V D Q := yat (c := xk_352) (hd := []) (dk := [3520001]) (dv := []) (nb := []) rfl h
set_option maxRecDepth 20000 in
theorem u_352_5 {d : Nat} {a1 : Nat} {i_0 : Int} {V : xF} {D : yD} {Q : xRes → xF → yD → Prop}
    (h : (i_0 ≠ 0 → (((0 : Int) ≤ V 76 5 ∧ V 76 5 < (401 : Int)) ∧ (((V 78 ((V 76 5).toNat)) = 3 → Q (.inl (some (vi 1))) V D) ∧ ((V 78 ((V 76 5).toNat)) ≠ 3 → ∀ V1 : xF, V1 = up2 V 76 5 (wr ((V 76 5) + 1)) → Q (.inl (some (vi 1))) V1 D)))) ∧ (i_0 = 0 → Q (.inl (some (vi 0))) V D)) :
    RY d 352 5 [vr 76, vr a1] [vi i_0] V D Q := yat (c := xk_352) (hd := []) (dk := []) (dv := [3580008]) (nb := [3520005, 3580010]) rfl h
set_option maxRecDepth 20000 in
theorem u_353_0_92 {d : Nat} {V : xF} {D : yD} {Q : xRes → xF → yD → Prop}
    (h : RY d 362 0 [vr 76, vi 0, vi (wr ((V 92 0) - 1)), vr 0] [] V D (yback d 353 14 [vr 247, vr 92, vr 0] [] Q)) :
    RY d 353 0 [vr 247, vr 92, vr 0] [] V D Q := yat (c := xk_353) (hd := []) (dk := []) (dv := []) (nb := []) rfl h
set_option maxRecDepth 20000 in
theorem u_353_14_92 {d : Nat} {i_0 : Int} {V : xF} {D : yD} {Q : xRes → xF → yD → Prop}
    (h : (i_0 ≠ 0 → RY d 370 0 [vr 76, vr 0, vr 0] [] V D (yback d 353 34 [vr 247, vr 92, vi (V 76 6)] [] Q)) ∧ (i_0 = 0 → Q (.inl (some (vi 0))) V D)) :
    RY d 353 14 [vr 247, vr 92, vr 0] [vi i_0] V D Q := yat (c := xk_353) (hd := []) (dk := []) (dv := []) (nb := [3530014]) rfl h
set_option maxRecDepth 20000 in
theorem u_353_34_92 {d : Nat} {i2 i_0 : Int} {V : xF} {D : yD} {Q : xRes → xF → yD → Prop}
    (h : (i_0 = i2 → Q (.inl (some (vi 0))) V D) ∧ (i_0 ≠ i2 → RY d 362 0 [vr 76, vi 0, vi (wr ((V 92 0) - 1)), vr 0] [] V D (yback d 353 52 [vr 247, vr 92, vi i2] [] Q))) :
    RY d 353 34 [vr 247, vr 92, vi i2] [vi i_0] V D Q := yat (c := xk_353) (hd := []) (dk := []) (dv := []) (nb := [3530035]) rfl h
set_option maxRecDepth 20000 in
theorem u_353_52_92 {d : Nat} {i2 i_0 : Int} {V : xF} {D : yD} {Q : xRes → xF → yD → Prop}
    (h : (i_0 ≠ 0 → RY d 262 0 [vr 92, vi i2, vi (V 76 6), vi 1] [] V D (yback d 353 70 [vr 247, vr 92, vi i2] [] Q)) ∧ (i_0 = 0 → Q (.inl (some (vi 0))) V D)) :
    RY d 353 52 [vr 247, vr 92, vi i2] [vi i_0] V D Q := yat (c := xk_353) (hd := []) (dk := []) (dv := []) (nb := [3530052]) rfl h
set_option maxRecDepth 20000 in
theorem u_353_70_92 {d : Nat} {i2 : Int} {V : xF} {D : yD} {Q : xRes → xF → yD → Prop}
    (h : Q (.inl (some (vi 1))) V D) :
    RY d 353 70 [vr 247, vr 92, vi i2] [] V D Q := yat (c := xk_353) (hd := []) (dk := []) (dv := []) (nb := []) rfl h
set_option maxRecDepth 20000 in
theorem u_354_0_92 {d : Nat} {V : xF} {D : yD} {Q : xRes → xF → yD → Prop}
    (h : RY d 362 0 [vr 76, vi 0, vi (wr ((V 92 0) - 1)), vr 0] [] V D (yback d 354 14 [vr 247, vr 92, vr 0, vr 0] [] Q)) :
    RY d 354 0 [vr 247, vr 92, vr 0, vr 0] [] V D Q := yat (c := xk_354) (hd := []) (dk := []) (dv := []) (nb := []) rfl h
set_option maxRecDepth 20000 in
theorem u_354_14_92 {d : Nat} {i_0 : Int} {V : xF} {D : yD} {Q : xRes → xF → yD → Prop}
    (h : (i_0 ≠ 0 → (((0 : Int) ≤ V 76 6 ∧ V 76 6 < (5 : Int)) ∧ RY d 362 0 [vr 76, vi 1, vi (wr ((V 93 ((V 76 6).toNat)) - 1)), vr 0] [] V D (yback d 354 43 [vr 247, vr 92, vi (V 76 6), vr 0] [] Q))) ∧ (i_0 = 0 → Q (.inl (some (vi 0))) V D)) :
    RY d 354 14 [vr 247, vr 92, vr 0, vr 0] [vi i_0] V D Q := yat (c := xk_354) (hd := []) (dk := []) (dv := [3540037]) (nb := [3540014]) rfl h
set_option maxRecDepth 20000 in
theorem u_354_43_92 {d : Nat} {i2 i_0 : Int} {V : xF} {D : yD} {Q : xRes → xF → yD → Prop}
    (h : (i_0 ≠ 0 → (((0 : Int) ≤ i2 ∧ i2 < (5 : Int)) ∧ RY d 362 0 [vr 76, vi 1, vi (wr ((V 94 i2.toNat) - 1)), vr 0] [] V D (yback d 354 72 [vr 247, vr 92, vi i2, vi (V 76 6)] [] Q))) ∧ (i_0 = 0 → Q (.inl (some (vi 0))) V D)) :
    RY d 354 43 [vr 247, vr 92, vi i2, vr 0] [vi i_0] V D Q := yat (c := xk_354) (hd := []) (dk := []) (dv := [3540066]) (nb := [3540043]) rfl h
set_option maxRecDepth 20000 in
theorem u_354_72_92 {d : Nat} {i2 i3 i_0 : Int} {V : xF} {D : yD} {Q : xRes → xF → yD → Prop}
    (h : (i_0 ≠ 0 → ∀ V1 : xF, V1 = up2 V 92 12 i2 → ∀ V2 : xF, V2 = up2 V1 92 13 (yr_265 i3 (V1 76 6) V1 D) → Q (.inl (some (vi 1))) V2 D) ∧ (i_0 = 0 → Q (.inl (some (vi 0))) V D)) :
    RY d 354 72 [vr 247, vr 92, vi i2, vi i3] [vi i_0] V D Q := yat (c := xk_354) (hd := []) (dk := []) (dv := []) (nb := [3540072]) rfl h
set_option maxRecDepth 20000 in
theorem u_355_0_92 {d : Nat} {V : xF} {D : yD} {Q : xRes → xF → yD → Prop}
    (h : RY d 352 0 [vr 76, vr 15] [] V D (yback d 355 9 [vr 247, vr 92] [] Q)) :
    RY d 355 0 [vr 247, vr 92] [] V D Q := yat (c := xk_355) (hd := []) (dk := []) (dv := []) (nb := []) rfl h
set_option maxRecDepth 20000 in
theorem u_355_9_92 {d : Nat} {i_0 : Int} {V : xF} {D : yD} {Q : xRes → xF → yD → Prop}
    (h : (i_0 = 0 → RY d 352 0 [vr 76, vr 16] [] V D (yback d 355 29 [vr 247, vr 92] [] Q)) ∧ (i_0 ≠ 0 → ∀ V1 : xF, V1 = up2 V 92 15 0 → Q (.inl (some (vi 1))) V1 D)) :
    RY d 355 9 [vr 247, vr 92] [vi i_0] V D Q := yat (c := xk_355) (hd := []) (dk := []) (dv := []) (nb := [3550009]) rfl h
set_option maxRecDepth 20000 in
theorem u_355_29_92 {d : Nat} {i_0 : Int} {V : xF} {D : yD} {Q : xRes → xF → yD → Prop}
    (h : (i_0 = 0 → RY d 352 0 [vr 76, vr 17] [] V D (yback d 355 49 [vr 247, vr 92] [] Q)) ∧ (i_0 ≠ 0 → ∀ V1 : xF, V1 = up2 V 92 15 1 → Q (.inl (some (vi 1))) V1 D)) :
    RY d 355 29 [vr 247, vr 92] [vi i_0] V D Q := yat (c := xk_355) (hd := []) (dk := []) (dv := []) (nb := [3550029]) rfl h
set_option maxRecDepth 20000 in
theorem u_355_49_92 {d : Nat} {i_0 : Int} {V : xF} {D : yD} {Q : xRes → xF → yD → Prop}
    (h : (i_0 = 0 → Q (.inl (some (vi 0))) V D) ∧ (i_0 ≠ 0 → ∀ V1 : xF, V1 = up2 V 92 15 2 → Q (.inl (some (vi 1))) V1 D)) :
    RY d 355 49 [vr 247, vr 92] [vi i_0] V D Q := yat (c := xk_355) (hd := []) (dk := []) (dv := []) (nb := [3550049]) rfl h
set_option maxRecDepth 20000 in
theorem u_356_0_92 {d : Nat} {V : xF} {D : yD} {Q : xRes → xF → yD → Prop}
    (h : RY d 352 0 [vr 76, vr 18] [] V D (yback d 356 9 [vr 247, vr 92] [] Q)) :
    RY d 356 0 [vr 247, vr 92] [] V D Q := yat (c := xk_356) (hd := []) (dk := []) (dv := []) (nb := []) rfl h
set_option maxRecDepth 20000 in
theorem u_356_9_92 {d : Nat} {i_0 : Int} {V : xF} {D : yD} {Q : xRes → xF → yD → Prop}
    (h : (i_0 = 0 → RY d 352 0 [vr 76, vr 19] [] V D (yback d 356 51 [vr 247, vr 92] [] Q)) ∧ (i_0 ≠ 0 → RY d 362 0 [vr 76, vi 0, vi 999, vr 0] [] V D (yback d 356 23 [vr 247, vr 92] [] Q))) :
    RY d 356 9 [vr 247, vr 92] [vi i_0] V D Q := yat (c := xk_356) (hd := []) (dk := []) (dv := []) (nb := [3560009]) rfl h
set_option maxRecDepth 20000 in
theorem u_356_23_92 {d : Nat} {i_0 : Int} {V : xF} {D : yD} {Q : xRes → xF → yD → Prop}
    (h : (i_0 ≠ 0 → ∀ V1 : xF, V1 = up2 V 92 14 (V 76 6) → Q (.inl (some (vi 1))) V1 D) ∧ (i_0 = 0 → Q (.inl (some (vi 0))) V D)) :
    RY d 356 23 [vr 247, vr 92] [vi i_0] V D Q := yat (c := xk_356) (hd := []) (dk := []) (dv := []) (nb := [3560023]) rfl h
set_option maxRecDepth 20000 in
theorem u_356_51_92 {d : Nat} {i_0 : Int} {V : xF} {D : yD} {Q : xRes → xF → yD → Prop}
    (h : (i_0 = 0 → RY d 352 0 [vr 76, vr 20] [] V D (yback d 356 91 [vr 247, vr 92] [] Q)) ∧ (i_0 ≠ 0 → RY d 362 0 [vr 76, vi 1, vi 3, vr 0] [] V D (yback d 356 63 [vr 247, vr 92] [] Q))) :
    RY d 356 51 [vr 247, vr 92] [vi i_0] V D Q := yat (c := xk_356) (hd := []) (dk := []) (dv := []) (nb := [3560051]) rfl h
set_option maxRecDepth 20000 in
theorem u_356_63_92 {d : Nat} {i_0 : Int} {V : xF} {D : yD} {Q : xRes → xF → yD → Prop}
    (h : (i_0 ≠ 0 → ∀ V1 : xF, V1 = up2 V 92 16 (V 76 6) → Q (.inl (some (vi 1))) V1 D) ∧ (i_0 = 0 → Q (.inl (some (vi 0))) V D)) :
    RY d 356 63 [vr 247, vr 92] [vi i_0] V D Q := yat (c := xk_356) (hd := []) (dk := []) (dv := []) (nb := [3560063]) rfl h
set_option maxRecDepth 20000 in
theorem u_356_91_92 {d : Nat} {i_0 : Int} {V : xF} {D : yD} {Q : xRes → xF → yD → Prop}
    (h : (i_0 = 0 → RY d 352 0 [vr 76, vr 21] [] V D (yback d 356 132 [vr 247, vr 92] [] Q)) ∧ (i_0 ≠ 0 → RY d 362 0 [vr 76, vi 0, vi 100, vr 0] [] V D (yback d 356 104 [vr 247, vr 92] [] Q))) :
    RY d 356 91 [vr 247, vr 92] [vi i_0] V D Q := yat (c := xk_356) (hd := []) (dk := []) (dv := []) (nb := [3560091]) rfl h
set_option maxRecDepth 20000 in
theorem u_356_104_92 {d : Nat} {i_0 : Int} {V : xF} {D : yD} {Q : xRes → xF → yD → Prop}
    (h : (i_0 ≠ 0 → ∀ V1 : xF, V1 = up2 V 92 17 (V 76 6) → Q (.inl (some (vi 1))) V1 D) ∧ (i_0 = 0 → Q (.inl (some (vi 0))) V D)) :
    RY d 356 104 [vr 247, vr 92] [vi i_0] V D Q := yat (c := xk_356) (hd := []) (dk := []) (dv := []) (nb := [3560104]) rfl h
set_option maxRecDepth 20000 in
theorem u_356_132_92 {d : Nat} {i_0 : Int} {V : xF} {D : yD} {Q : xRes → xF → yD → Prop}
    (h : (i_0 = 0 → Q (.inl (some (vi 0))) V D) ∧ (i_0 ≠ 0 → RY d 362 0 [vr 76, vi 0, vi 999, vr 0] [] V D (yback d 356 146 [vr 247, vr 92] [] Q))) :
    RY d 356 132 [vr 247, vr 92] [vi i_0] V D Q := yat (c := xk_356) (hd := []) (dk := []) (dv := []) (nb := [3560132]) rfl h
set_option maxRecDepth 20000 in
theorem u_356_146_92 {d : Nat} {i_0 : Int} {V : xF} {D : yD} {Q : xRes → xF → yD → Prop}
    (h : (i_0 ≠ 0 → ∀ V1 : xF, V1 = up2 V 92 18 (V 76 6) → Q (.inl (some (vi 1))) V1 D) ∧ (i_0 = 0 → Q (.inl (some (vi 0))) V D)) :
    RY d 356 146 [vr 247, vr 92] [vi i_0] V D Q := yat (c := xk_356) (hd := []) (dk := []) (dv := []) (nb := [3560146]) rfl h
set_option maxRecDepth 20000 in
theorem u_359_0 {d : Nat} {V : xF} {D : yD} {Q : xRes → xF → yD → Prop}
    (h : RY d 371 0 [vr 405, vr 0, vr 0, vr 0] [] V D (yback (d + 1) 359 4 [vr 405, vr 0, vr 0] [] Q)) :
    RY (d + 1) 359 0 [vr 405, vr 0, vr 0] [] V D Q := yat (c := xk_359) (hd := [3590005]) (dk := []) (dv := []) (nb := []) rfl h
set_option maxRecDepth 20000 in
theorem u_359_4 {d : Nat} {i_0 : Int} {V : xF} {D : yD} {Q : xRes → xF → yD → Prop}
    (h : RY (d + 1) 359 5 [vr 405, vi i_0, vr 0] [] V D Q) :
    RY (d + 1) 359 4 [vr 405, vr 0, vr 0] [vi i_0] V D Q := yat (c := xk_359) (hd := [3590005]) (dk := []) (dv := []) (nb := []) rfl h
set_option maxRecDepth 20000 in
theorem u_359_5 {d : Nat} {i1 : Int} {v2 : xV} {V : xF} {D : yD} {Q : xRes → xF → yD → Prop}
    (h : ((V 405 12) ≠ ((-1)) → ((i1 = 0 ∨ i1 = 1) ∧ Q (.inl (some (vi i1))) V D)) ∧ ((V 405 12) = ((-1)) → RY (d + 1) 302 0 [vr 405, vr 54, vr 0, vr 0] [] V D (yback (d + 1) 359 19 [vr 405, vi i1, v2] [] Q))) :
    RY (d + 1) 359 5 [vr 405, vi i1, v2] [] V D Q := yat (c := xk_359) (hd := [3590005]) (dk := []) (dv := [3590045]) (nb := [3590010]) rfl h
set_option maxRecDepth 20000 in
theorem u_359_19 {d : Nat} {i1 i_0 : Int} {v2 : xV} {V : xF} {D : yD} {Q : xRes → xF → yD → Prop}
    (h : (i_0 = 0 → ((i1 = 0 ∨ i1 = 1) ∧ Q (.inl (some (vi i1))) V D)) ∧ (i_0 ≠ 0 → RY d 371 0 [vr 405, vr 0, vr 0, vr 0] [] V D (yback (d + 1) 359 26 [vr 405, vi i1, v2] [] Q))) :
    RY (d + 1) 359 19 [vr 405, vi i1, v2] [vi i_0] V D Q := yat (c := xk_359) (hd := [3590005]) (dk := []) (dv := [3590045]) (nb := [3590019]) rfl h
set_option maxRecDepth 20000 in
theorem u_359_26 {d : Nat} {i1 i_0 : Int} {v2 : xV} {V : xF} {D : yD} {Q : xRes → xF → yD → Prop}
    (h : (i1 = 0 → RY (d + 1) 359 5 [vr 405, vi 0, vi i_0] [] V D Q) ∧ (i1 ≠ 0 → ((i_0 = 0 → RY (d + 1) 359 5 [vr 405, vi 0, vi i_0] [] V D Q) ∧ (i_0 ≠ 0 → RY (d + 1) 359 5 [vr 405, vi 1, vi i_0] [] V D Q)))) :
    RY (d + 1) 359 26 [vr 405, vi i1, v2] [vi i_0] V D Q := yat (c := xk_359) (hd := [3590005]) (dk := []) (dv := []) (nb := [3590028, 3590032]) rfl h
set_option maxRecDepth 20000 in
theorem u_360_0 {d : Nat} {a1 : Nat} {V : xF} {D : yD} {Q : xRes → xF → yD → Prop}
    (h : ((V 405 12) = ((-1)) → (a1 ≠ 0 ∧ RY d 302 0 [vr 405, vr a1, vr 0, vr 0] [] V D (yback d 360 15 [vr 405, vr a1, vr 0] [] Q))) ∧ ((V 405 12) ≠ ((-1)) → Q (.inl (some (vi 0))) V D)) :
    RY d 360 0 [vr 405, vr a1, vr 0] [] V D Q := yat (c := xk_360) (hd := []) (dk := [3600011]) (dv := []) (nb := [3600005]) rfl h
set_option maxRecDepth 20000 in
theorem u_360_15 {d : Nat} {a1 : Nat} {i_0 : Int} {V : xF} {D : yD} {Q : xRes → xF → yD → Prop}
    (h : (i_0 ≠ 0 → ((i_0 = 0 ∨ i_0 = 1) ∧ Q (.inl (some (vi i_0))) V D)) ∧ (i_0 = 0 → (((V 405 12) ≠ ((-1)) → ((i_0 = 0 ∨ i_0 = 1) ∧ Q (.inl (some (vi i_0))) V D)) ∧ ((V 405 12) = ((-1)) → ∀ V1 : xF, V1 = up2 V 405 12 (V 405 11) → ((i_0 = 0 ∨ i_0 = 1) ∧ Q (.inl (some (vi i_0))) V1 D))))) :
    RY d 360 15 [vr 405, vr a1, vr 0] [vi i_0] V D Q := yat (c := xk_360) (hd := []) (dk := []) (dv := [3600029]) (nb := [2290005, 3600017]) rfl h
set_option maxRecDepth 20000 in
theorem u_361_0 {d : Nat} {V : xF} {D : yD} {Q : xRes → xF → yD → Prop}
    (h : ((V 405 12) = ((-1)) → RY d 305 0 [vr 405] [] V D (yback d 361 14 [vr 405, vr 0, vr 0, vr 0, vr 0, vr 0, vr 0] [] Q)) ∧ ((V 405 12) ≠ ((-1)) → Q (.inl (some (vi 0))) V D)) :
    RY d 361 0 [vr 405, vr 0, vr 0, vr 0, vr 0, vr 0, vr 0] [] V D Q := yat (c := xk_361) (hd := [3610022, 3610116, 3610136, 3610139, 3610159, 3610165, 3610175, 3610190]) (dk := []) (dv := []) (nb := [3610005]) rfl h
set_option maxRecDepth 20000 in
theorem u_361_14 {d : Nat} {i_0 : Int} {V : xF} {D : yD} {Q : xRes → xF → yD → Prop}
    (h : RY d 361 22 [vr 405, vi i_0, vi 0, vi 0, vi 1, vr 0, vr 0] [] V D Q) :
    RY d 361 14 [vr 405, vr 0, vr 0, vr 0, vr 0, vr 0, vr 0] [vi i_0] V D Q := yat (c := xk_361) (hd := [3610022, 3610116, 3610136, 3610139, 3610159, 3610165, 3610175, 3610190]) (dk := []) (dv := []) (nb := []) rfl h
set_option maxRecDepth 20000 in
theorem u_361_22 {d : Nat} {i1 i2 i3 i4 : Int} {v5 v6 : xV} {V : xF} {D : yD} {Q : xRes → xF → yD → Prop}
    (h : ((V 405 10) ≤ (wr (i1 + i2)) → RY d 361 165 [vr 405, vi i1, vi i2, vi i3, vi i4, v5, v6] [] V D Q) ∧ ((wr (i1 + i2)) < (V 405 10) → (yg_301 (wr (i1 + i2)) V D ∧ (((yr_124 (yr_301 (wr (i1 + i2)) V D) 97 122 V D) = 0 → RY d 361 165 [vr 405, vi i1, vi i2, vi i3, vi i4, v5, v6] [] V D Q) ∧ ((yr_124 (yr_301 (wr (i1 + i2)) V D) 97 122 V D) ≠ 0 → (yg_301 (wr (i1 + i2)) V D ∧ (((yr_301 (wr (i1 + i2)) V D) ≠ 111 → (((yr_301 (wr (i1 + i2)) V D) ≠ 102 → (((yr_301 (wr (i1 + i2)) V D) ≠ 99 → (((yr_301 (wr (i1 + i2)) V D) ≠ 115 → (((yr_301 (wr (i1 + i2)) V D) ≠ 103 → RY d 361 116 [vr 405, vi i1, vi i2, vi i3, vi i4, vi (yr_301 (wr (i1 + i2)) V D), vi ((-1))] [] V D Q) ∧ ((yr_301 (wr (i1 + i2)) V D) = 103 → RY d 361 116 [vr 405, vi i1, vi i2, vi i3, vi i4, vi (yr_301 (wr (i1 + i2)) V D), vi 4] [] V D Q))) ∧ ((yr_301 (wr (i1 + i2)) V D) = 115 → RY d 361 116 [vr 405, vi i1, vi i2, vi i3, vi i4, vi (yr_301 (wr (i1 + i2)) V D), vi 3] [] V D Q))) ∧ ((yr_301 (wr (i1 + i2)) V D) = 99 → RY d 361 116 [vr 405, vi i1, vi i2, vi i3, vi i4, vi (yr_301 (wr (i1 + i2)) V D), vi 2] [] V D Q))) ∧ ((yr_301 (wr (i1 + i2)) V D) = 102 → RY d 361 116 [vr 405, vi i1, vi i2, vi i3, vi i4, vi (yr_301 (wr (i1 + i2)) V D), vi 1] [] V D Q))) ∧ ((yr_301 (wr (i1 + i2)) V D) = 111 → RY d 361 116 [vr 405, vi i1, vi i2, vi i3, vi i4, vi (yr_301 (wr (i1 + i2)) V D), vi 0] [] V D Q)))))))) :
    RY d 361 22 [vr 405, vi i1, vi i2, vi i3, vi i4, v5, v6] [] V D Q := yat (c := xk_361) (hd := [3610022, 3610116, 3610136, 3610139, 3610159, 3610165, 3610175, 3610190]) (dk := []) (dv := []) (nb := [3610029, 3610046, 3610062, 3610073, 3610084, 3610095, 3610106]) rfl h
set_option maxRecDepth 20000 in
theorem u_361_116 {d : Nat} {i1 i2 i3 i4 i5 i6 : Int} {V : xF} {D : yD} {Q : xRes → xF → yD → Prop}
    (h : (i4 = 0 → RY d 361 136 [vr 405, vi i1, vi i2, vi i3, vi i4, vi i5, vi i6] [] V D Q) ∧ (i4 ≠ 0 → ((i6 = ((-1)) → RY d 361 136 [vr 405, vi i1, vi i2, vi i3, vi i4, vi i5, vi i6] [] V D Q) ∧ (i6 ≠ ((-1)) → (((4 : Int) ≤ i2 → RY d 361 136 [vr 405, vi i1, vi i2, vi i3, vi i4, vi i5, vi i6] [] V D Q) ∧ (i2 < 4 → RY d 361 139 [vr 405, vi i1, vi i2, vi i3, vi 1, vi i5, vi i6] [] V D Q)))))) :
    RY d 361 116 [vr 405, vi i1, vi i2, vi i3, vi i4, vi i5, vi i6] [] V D Q := yat (c := xk_361) (hd := [3610022, 3610116, 3610136, 3610139, 3610159, 3610165, 3610175, 3610190]) (dk := []) (dv := []) (nb := [3610118, 3610124, 3610129]) rfl h
set_option maxRecDepth 20000 in
theorem u_361_136 {d : Nat} {i1 i2 i3 i4 i5 i6 : Int} {V : xF} {D : yD} {Q : xRes → xF → yD → Prop}
    (h : RY d 361 139 [vr 405, vi i1, vi i2, vi i3, vi 0, vi i5, vi i6] [] V D Q) :
    RY d 361 136 [vr 405, vi i1, vi i2, vi i3, vi i4, vi i5, vi i6] [] V D Q := yat (c := xk_361) (hd := [3610022, 3610116, 3610136, 3610139, 3610159, 3610165, 3610175, 3610190]) (dk := []) (dv := []) (nb := []) rfl h
set_option maxRecDepth 20000 in
theorem u_361_139 {d : Nat} {i1 i2 i3 i4 i5 i6 : Int} {V : xF} {D : yD} {Q : xRes → xF → yD → Prop}
    (h : ((4 : Int) ≤ i2 → RY d 361 159 [vr 405, vi i1, vi i2, vi i3, vi i4, vi i5, vi i6] [] V D Q) ∧ (i2 < 4 → RY d 361 159 [vr 405, vi i1, vi i2, vi (wr ((wr ((5 : Int) * i3)) + (yr_185 0 i6 V D))), vi i4, vi i5, vi i6] [] V D Q)) :
    RY d 361 139 [vr 405, vi i1, vi i2, vi i3, vi i4, vi i5, vi i6] [] V D Q := yat (c := xk_361) (hd := [3610022, 3610116, 3610136, 3610139, 3610159, 3610165, 3610175, 3610190]) (dk := []) (dv := []) (nb := [3610141]) rfl h
set_option maxRecDepth 20000 in
theorem u_361_159 {d : Nat} {i1 i2 i3 i4 i5 i6 : Int} {V : xF} {D : yD} {Q : xRes → xF → yD → Prop}
    (h : RY d 361 22 [vr 405, vi i1, vi (wr (i2 + 1)), vi i3, vi i4, vi i5, vi i6] [] V D Q) :
    RY d 361 159 [vr 405, vi i1, vi i2, vi i3, vi i4, vi i5, vi i6] [] V D Q := yat (c := xk_361) (hd := [3610022, 3610116, 3610136, 3610139, 3610159, 3610165, 3610175, 3610190]) (dk := []) (dv := []) (nb := []) rfl h
set_option maxRecDepth 20000 in
theorem u_361_165 {d : Nat} {i1 i2 i3 i4 : Int} {v5 v6 : xV} {V : xF} {D : yD} {Q : xRes → xF → yD → Prop}
    (h : (i4 = 0 → RY d 361 175 [vr 405, vi i1, vi i2, vi i3, vi i4, v5, v6] [] V D Q) ∧ (i4 ≠ 0 → ((i2 = 4 → ∀ V1 : xF, V1 = up2 V 405 11 (wr (i1 + i2)) → RY d 361 190 [vr 405, vi i1, vi i2, vi i3, vi i4, v5, v6] [] V1 D Q) ∧ (i2 ≠ 4 → RY d 361 175 [vr 405, vi i1, vi i2, vi i3, vi i4, v5, v6] [] V D Q)))) :
    RY d 361 165 [vr 405, vi i1, vi i2, vi i3, vi i4, v5, v6] [] V D Q := yat (c := xk_361) (hd := [3610022, 3610116, 3610136, 3610139, 3610159, 3610165, 3610175, 3610190]) (dk := []) (dv := []) (nb := [3610167, 3610172]) rfl h
set_option maxRecDepth 20000 in
theorem u_361_175 {d : Nat} {i1 i2 i3 i4 : Int} {v5 v6 : xV} {V : xF} {D : yD} {Q : xRes → xF → yD → Prop}
    (h : ((V 405 12) ≠ ((-1)) → RY d 361 190 [vr 405, vi i1, vi i2, vi i3, vi i4, v5, v6] [] V D Q) ∧ ((V 405 12) = ((-1)) → ∀ V1 : xF, V1 = up2 V 405 12 i1 → RY d 361 190 [vr 405, vi i1, vi i2, vi i3, vi i4, v5, v6] [] V1 D Q)) :
    RY d 361 175 [vr 405, vi i1, vi i2, vi i3, vi i4, v5, v6] [] V D Q := yat (c := xk_361) (hd := [3610022, 3610116, 3610136, 3610139, 3610159, 3610165, 3610175, 3610190]) (dk := []) (dv := []) (nb := [2290005]) rfl h
set_option maxRecDepth 20000 in
theorem u_361_190 {d : Nat} {i1 i2 i3 i4 : Int} {v5 v6 : xV} {V : xF} {D : yD} {Q : xRes → xF → yD → Prop}
    (h : Q (.inl (some (vi i3))) V D) :
    RY d 361 190 [vr 405, vi i1, vi i2, vi i3, vi i4, v5, v6] [] V D Q := yat (c := xk_361) (hd := [3610022, 3610116, 3610136, 3610139, 3610159, 3610165, 3610175, 3610190]) (dk := []) (dv := []) (nb := []) rfl h
set_option maxRecDepth 20000 in
theorem u_362_0 {d : Nat} {i1 i2 : Int} {V : xF} {D : yD} {Q : xRes → xF → yD → Prop}
    (h : RY d 370 0 [vr 76, vr 0, vr 0] [] V D (yback d 362 4 [vr 76, vi i1, vi i2, vr 0] [] Q)) :
    RY d 362 0 [vr 76, vi i1, vi i2, vr 0] [] V D Q := yat (c := xk_362) (hd := []) (dk := []) (dv := []) (nb := []) rfl h
set_option maxRecDepth 20000 in
theorem u_362_4 {d : Nat} {i1 i2 i_0 : Int} {V : xF} {D : yD} {Q : xRes → xF → yD → Prop}
    (h : (i_0 = ((-1)) → Q (.inl (some (vi 0))) V D) ∧ (i_0 ≠ ((-1)) → ((i_0 < i1 → Q (.inl (some (vi 0))) V D) ∧ (i1 ≤ i_0 → ((i_0 ≤ i2 → ∀ V1 : xF, V1 = up2 V 76 6 i_0 → (((0 : Int) ≤ V1 76 5 ∧ V1 76 5 < (401 : Int)) ∧ (((V1 78 ((V1 76 5).toNat)) = 3 → Q (.inl (some (vi 1))) V1 D) ∧ ((V1 78 ((V1 76 5).toNat)) ≠ 3 → ∀ V2 : xF, V2 = up2 V1 76 5 (wr ((V1 76 5) + 1)) → Q (.inl (some (vi 1))) V2 D)))) ∧ (i2 < i_0 → Q (.inl (some (vi 0))) V D)))))) :
    RY d 362 4 [vr 76, vi i1, vi i2, vr 0] [vi i_0] V D Q := yat (c := xk_362) (hd := []) (dk := []) (dv := [3580008]) (nb := [3580010, 3620007, 3620012, 3620017]) rfl h
set_option maxRecDepth 20000 in
theorem u_363_0 {d : Nat} {i1 : Int} {V : xF} {D : yD} {Q : xRes → xF → yD → Prop}
    (h : RY (d + 1) 363 4 [vr 248, vi i1, vi 0, vi 0, vr 0] [] V D Q) :
    RY (d + 1) 363 0 [vr 248, vi i1, vr 0, vr 0, vr 0] [] V D Q := yat (c := xk_363) (hd := [3630004, 3630024]) (dk := []) (dv := []) (nb := []) rfl h
set_option maxRecDepth 20000 in
theorem u_363_4 {d : Nat} {i1 i2 i3 : Int} {v4 : xV} {V : xF} {D : yD} {Q : xRes → xF → yD → Prop}
    (h : ((400 : Int) ≤ i3 → Q (.inl (some (vi 0))) V D) ∧ (i3 < 400 → RY d 372 0 [vr 248, vi i1, vr 0, vr 0] [] V D (yback (d + 1) 363 16 [vr 248, vi i1, vi i2, vi i3, v4] [] Q))) :
    RY (d + 1) 363 4 [vr 248, vi i1, vi i2, vi i3, v4] [] V D Q := yat (c := xk_363) (hd := [3630004, 3630024]) (dk := []) (dv := []) (nb := [3630008]) rfl h
set_option maxRecDepth 20000 in
theorem u_363_16 {d : Nat} {i1 i2 i3 i_0 : Int} {v4 : xV} {V : xF} {D : yD} {Q : xRes → xF → yD → Prop}
    (h : (i_0 ≠ 0 → RY (d + 1) 363 24 [vr 248, vi i1, vi i2, vi i3, vi 0] [] V D Q) ∧ (i_0 = 0 → Q (.inl (some (vi 0))) V D)) :
    RY (d + 1) 363 16 [vr 248, vi i1, vi i2, vi i3, v4] [vi i_0] V D Q := yat (c := xk_363) (hd := [3630004, 3630024]) (dk := []) (dv := []) (nb := [3630016]) rfl h
set_option maxRecDepth 20000 in
theorem u_363_24 {d : Nat} {i1 i2 i3 i4 : Int} {V : xF} {D : yD} {Q : xRes → xF → yD → Prop}
    (h : ((400 : Int) ≤ i4 → ((i2 = 0 → RY (d + 1) 352 0 [vr 76, vr 38] [] V D (yback (d + 1) 363 85 [vr 248, vi i1, vi i2, vi i3, vi i4] [] Q)) ∧ (i2 ≠ 0 → (((800 : Int) ≤ (V 248 6) → RY (d + 1) 352 0 [vr 76, vr 38] [] V D (yback (d + 1) 363 85 [vr 248, vi i1, vi i2, vi i3, vi i4] [] Q)) ∧ ((V 248 6) < 800 → (((0 : Int) ≤ V 248 6 ∧ V 248 6 < (800 : Int)) ∧ (∀ V1 : xF, V1 = up2 V 252 ((V 248 6).toNat) ((-8)) → ∀ V2 : xF, V2 = up2 V1 248 6 (wr ((V1 248 6) + 1)) → RY (d + 1) 352 0 [vr 76, vr 38] [] V2 D (yback (d + 1) 363 85 [vr 248, vi i1, vi i2, vi i3, vi i4] [] Q)))))))) ∧ (i4 < 400 → RY (d + 1) 352 0 [vr 76, vr 37] [] V D (yback (d + 1) 363 41 [vr 248, vi i1, vi i2, vi i3, vi i4] [] Q))) :
    RY (d + 1) 363 24 [vr 248, vi i1, vi i2, vi i3, vi i4] [] V D Q := yat (c := xk_363) (hd := [3630004, 3630024]) (dk := []) (dv := [3730019]) (nb := [3630029, 3630067, 3730007]) rfl h
set_option maxRecDepth 20000 in
theorem u_363_41 {d : Nat} {i1 i2 i3 i4 i_0 : Int} {V : xF} {D : yD} {Q : xRes → xF → yD → Prop}
    (h : (i_0 = 0 → ((i2 = 0 → RY (d + 1) 352 0 [vr 76, vr 38] [] V D (yback (d + 1) 363 85 [vr 248, vi i1, vi i2, vi i3, vi i4] [] Q)) ∧ (i2 ≠ 0 → (((800 : Int) ≤ (V 248 6) → RY (d + 1) 352 0 [vr 76, vr 38] [] V D (yback (d + 1) 363 85 [vr 248, vi i1, vi i2, vi i3, vi i4] [] Q)) ∧ ((V 248 6) < 800 → (((0 : Int) ≤ V 248 6 ∧ V 248 6 < (800 : Int)) ∧ (∀ V1 : xF, V1 = up2 V 252 ((V 248 6).toNat) ((-8)) → ∀ V2 : xF, V2 = up2 V1 248 6 (wr ((V1 248 6) + 1)) → RY (d + 1) 352 0 [vr 76, vr 38] [] V2 D (yback (d + 1) 363 85 [vr 248, vi i1, vi i2, vi i3, vi i4] [] Q)))))))) ∧ (i_0 ≠ 0 → RY d 372 0 [vr 248, vi i1, vr 0, vr 0] [] V D (yback (d + 1) 363 49 [vr 248, vi i1, vi i2, vi i3, vi i4] [] Q))) :
    RY (d + 1) 363 41 [vr 248, vi i1, vi i2, vi i3, vi i4] [vi i_0] V D Q := yat (c := xk_363) (hd := [3630004, 3630024]) (dk := []) (dv := [3730019]) (nb := [3630041, 3630067, 3730007]) rfl h
set_option maxRecDepth 20000 in
theorem u_363_49 {d : Nat} {i1 i2 i3 i4 i_0 : Int} {V : xF} {D : yD} {Q : xRes → xF → yD → Prop}
    (h : (i_0 ≠ 0 → (((800 : Int) ≤ (V 248 6) → RY (d + 1) 363 24 [vr 248, vi i1, vi i2, vi i3, vi (wr (i4 + 1))] [] V D Q) ∧ ((V 248 6) < 800 → (((0 : Int) ≤ V 248 6 ∧ V 248 6 < (800 : Int)) ∧ (∀ V1 : xF, V1 = up2 V 252 ((V 248 6).toNat) ((-7)) → ∀ V2 : xF, V2 = up2 V1 248 6 (wr ((V1 248 6) + 1)) → RY (d + 1) 363 24 [vr 248, vi i1, vi i2, vi i3, vi (wr (i4 + 1))] [] V2 D Q))))) ∧ (i_0 = 0 → Q (.inl (some (vi 0))) V D)) :
    RY (d + 1) 363 49 [vr 248, vi i1, vi i2, vi i3, vi i4] [vi i_0] V D Q := yat (c := xk_363) (hd := [3630004, 3630024]) (dk := []) (dv := [3730019]) (nb := [3630049, 3730007]) rfl h
set_option maxRecDepth 20000 in
theorem u_363_85 {d : Nat} {i1 i2 i3 i4 i_0 : Int} {V : xF} {D : yD} {Q : xRes → xF → yD → Prop}
    (h : (i_0 ≠ 0 → RY (d + 1) 363 4 [vr 248, vi i1, vi 1, vi (wr (i3 + 1)), vi i4] [] V D Q) ∧ (i_0 = 0 → Q (.inl (some (vi 1))) V D)) :
    RY (d + 1) 363 85 [vr 248, vi i1, vi i2, vi i3, vi i4] [vi i_0] V D Q := yat (c := xk_363) (hd := [3630004, 3630024]) (dk := []) (dv := []) (nb := [3630085]) rfl h
set_option maxRecDepth 20000 in
theorem u_364_0 {d : Nat} {a0 : Nat} {i1 : Int} {V : xF} {D : yD} {Q : xRes → xF → yD → Prop}
    (h : (i1 ≠ 0 → (a0 ≠ 0 ∧ (yK D.2.2.1 a0).1 = 3 ∧ yR D.2.1 D.2.2.1 a0 3 ≠ 0 ∧ (20 ≤ (yK D.2.2.1 (yR D.2.1 D.2.2.1 a0 3)).1 ∧ (yK D.2.2.1 (yR D.2.1 D.2.2.1 a0 3)).1 ≤ 21) ∧ ((0 : Int) ≤ wr (i1 - 1) ∧ wr (i1 - 1) < ((yK D.2.2.1 (yR D.2.1 D.2.2.1 a0 3)).2 : Int)) ∧ RY d 364 26 [vr a0, vi i1, vr 394, vi 1, vi 0, vi 0, vi (V (yR D.2.1 D.2.2.1 a0 3) ((wr (i1 - 1)).toNat)), vr 0] [] V D Q)) ∧ (i1 = 0 → RY d 364 26 [vr a0, vi i1, vr 394, vi 1, vi 0, vi 0, vi 0, vr 0] [] V D Q)) :
    RY d 364 0 [vr a0, vi i1, vr 394, vr 0, vr 0, vr 0, vr 0, vr 0] [] V D Q := yat (c := xk_364) (hd := [3640026, 3640123, 3640146, 3640168, 3640188, 3640247]) (dk := [3640016, 3640017, 3640023]) (dv := [3640023]) (nb := [3640009]) rfl h
set_option maxRecDepth 20000 in
theorem u_364_26 {d : Nat} {a0 : Nat} {i1 i3 i4 i5 i6 : Int} {v7 : xV} {V : xF} {D : yD} {Q : xRes → xF → yD → Prop}
    (h : a0 ≠ 0 ∧ (yK D.2.2.1 a0).1 = 3 ∧ yR D.2.1 D.2.2.1 a0 3 ≠ 0 ∧ (20 ≤ (yK D.2.2.1 (yR D.2.1 D.2.2.1 a0 3)).1 ∧ (yK D.2.2.1 (yR D.2.1 D.2.2.1 a0 3)).1 ≤ 21) ∧ ((0 : Int) ≤ i1 ∧ i1 < ((yK D.2.2.1 (yR D.2.1 D.2.2.1 a0 3)).2 : Int)) ∧ (((V (yR D.2.1 D.2.2.1 a0 3) i1.toNat) ≤ i6 → (((xand i3 1) ≠ 1 → Q (.inl (some (vi 0))) V D) ∧ ((xand i3 1) = 1 → Q (.inl (some (vi 1))) V D))) ∧ (i6 < (V (yR D.2.1 D.2.2.1 a0 3) i1.toNat) → (a0 ≠ 0 ∧ (yK D.2.2.1 a0).1 = 3 ∧ yR D.2.1 D.2.2.1 a0 4 ≠ 0 ∧ (20 ≤ (yK D.2.2.1 (yR D.2.1 D.2.2.1 a0 4)).1 ∧ (yK D.2.2.1 (yR D.2.1 D.2.2.1 a0 4)).1 ≤ 21) ∧ ((0 : Int) ≤ i6 ∧ i6 < ((yK D.2.2.1 (yR D.2.1 D.2.2.1 a0 4)).2 : Int)) ∧ ((((V (yR D.2.1 D.2.2.1 a0 4) i6.toNat) = (-8) → RY d 364 247 [vr a0, vi i1, vr 394, vi (xor_ (xshr i3 1) (xand i3 1)), vi i4, vi i5, vi i6, vi (V (yR D.2.1 D.2.2.1 a0 4) i6.toNat)] [] V D Q) ∧ ((V (yR D.2.1 D.2.2.1 a0 4) i6.toNat) = (-7) → RY d 364 247 [vr a0, vi i1, vr 394, vi (xand (xshr i3 1) (xor_ i3 ((-2)))), vi i4, vi i5, vi i6, vi (V (yR D.2.1 D.2.2.1 a0 4) i6.toNat)] [] V D Q) ∧ ((V (yR D.2.1 D.2.2.1 a0 4) i6.toNat) = (-6) → RY d 364 247 [vr a0, vi i1, vr 394, vi (xxor i3 1), vi i4, vi i5, vi i6, vi (V (yR D.2.1 D.2.2.1 a0 4) i6.toNat)] [] V D Q) ∧ ((V (yR D.2.1 D.2.2.1 a0 4) i6.toNat) = (-5) → (((V 394 8) = 0 → RY d 364 188 [vr a0, vi i1, vr 394, vi (xor_ (xshl i3 1) 0), vi i4, vi i5, vi i6, vi (V (yR D.2.1 D.2.2.1 a0 4) i6.toNat)] [] V D Q) ∧ ((V 394 8) ≠ 0 → RY d 364 188 [vr a0, vi i1, vr 394, vi (xor_ (xshl i3 1) 1), vi i4, vi i5, vi i6, vi (V (yR D.2.1 D.2.2.1 a0 4) i6.toNat)] [] V D Q))) ∧ ((V (yR D.2.1 D.2.2.1 a0 4) i6.toNat) = (-4) → (((V 394 5) ≠ 0 → RY d 364 168 [vr a0, vi i1, vr 394, vi (xor_ (xshl i3 1) 0), vi i4, vi i5, vi i6, vi (V (yR D.2.1 D.2.2.1 a0 4) i6.toNat)] [] V D Q) ∧ ((V 394 5) = 0 → RY d 364 168 [vr a0, vi i1, vr 394, vi (xor_ (xshl i3 1) 1), vi i4, vi i5, vi i6, vi (V (yR D.2.1 D.2.2.1 a0 4) i6.toNat)] [] V D Q))) ∧ ((V (yR D.2.1 D.2.2.1 a0 4) i6.toNat) = (-3) → ((i5 ≤ i4 → RY d 364 146 [vr a0, vi i1, vr 394, vi (xor_ (xshl i3 1) 0), vi i4, vi i5, vi i6, vi (V (yR D.2.1 D.2.2.1 a0 4) i6.toNat)] [] V D Q) ∧ (i4 < i5 → RY d 364 146 [vr a0, vi i1, vr 394, vi (xor_ (xshl i3 1) 1), vi i4, vi i5, vi i6, vi (V (yR D.2.1 D.2.2.1 a0 4) i6.toNat)] [] V D Q))) ∧ ((V (yR D.2.1 D.2.2.1 a0 4) i6.toNat) = (-2) → ((i4 ≤ i5 → RY d 364 123 [vr a0, vi i1, vr 394, vi (xor_ (xshl i3 1) 0), vi i4, vi i5, vi i6, vi (V (yR D.2.1 D.2.2.1 a0 4) i6.toNat)] [] V D Q) ∧ (i5 < i4 → RY d 364 123 [vr a0, vi i1, vr 394, vi (xor_ (xshl i3 1) 1), vi i4, vi i5, vi i6, vi (V (yR D.2.1 D.2.2.1 a0 4) i6.toNat)] [] V D Q))) ∧ ((V (yR D.2.1 D.2.2.1 a0 4) i6.toNat) = (-1) → RY d 364 247 [vr a0, vi i1, vr 394, vi i3, vi 0, vi i4, vi i6, vi (V (yR D.2.1 D.2.2.1 a0 4) i6.toNat)] [] V D Q) ∧ True) ∧ (((V (yR D.2.1 D.2.2.1 a0 4) i6.toNat) < (-8) ∨ (-8 : Int) + 8 ≤ (V (yR D.2.1 D.2.2.1 a0 4) i6.toNat)) → (((1000 : Int) ≤ (V (yR D.2.1 D.2.2.1 a0 4) i6.toNat) → (((0 : Int) ≤ wr ((V (yR D.2.1 D.2.2.1 a0 4) i6.toNat) - 1000) ∧ wr ((V (yR D.2.1 D.2.2.1 a0 4) i6.toNat) - 1000) < (9 : Int)) ∧ RY d 364 247 [vr a0, vi i1, vr 394, vi i3, vi (wr (i4 + (V 394 ((wr ((V (yR D.2.1 D.2.2.1 a0 4) i6.toNat) - 1000)).toNat)))), vi i5, vi i6, vi (V (yR D.2.1 D.2.2.1 a0 4) i6.toNat)] [] V D Q)) ∧ ((V (yR D.2.1 D.2.2.1 a0 4) i6.toNat) < 1000 → RY d 364 247 [vr a0, vi i1, vr 394, vi i3, vi (wr (i4 + (V (yR D.2.1 D.2.2.1 a0 4) i6.toNat))), vi i5, vi i6, vi (V (yR D.2.1 D.2.2.1 a0 4) i6.toNat)] [] V D Q)))))))) :
    RY d 364 26 [vr a0, vi i1, vr 394, vi i3, vi i4, vi i5, vi i6, v7] [] V D Q := yat (c := xk_364) (hd := [3640026, 3640123, 3640146, 3640168, 3640188, 3640247]) (dk := [3640028, 3640029, 3640033, 3640037, 3640038, 3640043]) (dv := [3640033, 3640043, 3640243]) (nb := [3640034, 3640113, 3640136, 3640158, 3640178, 3640228, 3640257]) rfl h
