/-! ===== STRETCHES 1 (printed by wip/whole/ym.py) ===== -/
set_option maxRecDepth 20000 in
theorem u_2_0 {d : Nat} {i1 i2 i3 i4 i5 : Int} {V : xF} {D : yD} {Q : xRes → xF → yD → Prop}
    (h : ((yr_121 V D) ≠ 0 → RY d 122 0 [vr 76, vi i1, vr 0] [] V D (yback d 2 20 [vr 70, vi i1, vi i2, vi i3, vi i4, vi i5] [] Q)) ∧ ((yr_121 V D) = 0 → Q (.inl (some (vi ((-1))))) V D)) :
    RY d 2 0 [vr 70, vi i1, vi i2, vi i3, vi i4, vi i5] [] V D Q := yat (c := xk_2) (hd := []) (dk := []) (dv := []) (nb := [20007]) rfl h
set_option maxRecDepth 20000 in
theorem u_2_20 {d : Nat} {i1 i2 i3 i4 i5 : Int} {V : xF} {D : yD} {Q : xRes → xF → yD → Prop}
    (h : RY d 122 0 [vr 76, vi i2, vr 0] [] V D (yback d 2 28 [vr 70, vi i1, vi i2, vi i3, vi i4, vi i5] [] Q)) :
    RY d 2 20 [vr 70, vi i1, vi i2, vi i3, vi i4, vi i5] [] V D Q := yat (c := xk_2) (hd := []) (dk := []) (dv := []) (nb := []) rfl h
set_option maxRecDepth 20000 in
theorem u_2_28 {d : Nat} {i1 i2 i3 i4 i5 : Int} {V : xF} {D : yD} {Q : xRes → xF → yD → Prop}
    (h : RY d 122 0 [vr 76, vi i3, vr 0] [] V D (yback d 2 36 [vr 70, vi i1, vi i2, vi i3, vi i4, vi i5] [] Q)) :
    RY d 2 28 [vr 70, vi i1, vi i2, vi i3, vi i4, vi i5] [] V D Q := yat (c := xk_2) (hd := []) (dk := []) (dv := []) (nb := []) rfl h
set_option maxRecDepth 20000 in
theorem u_2_36 {d : Nat} {i1 i2 i3 i4 i5 : Int} {V : xF} {D : yD} {Q : xRes → xF → yD → Prop}
    (h : RY d 122 0 [vr 76, vi i4, vr 0] [] V D (yback d 2 45 [vr 70, vi i1, vi i2, vi i3, vi i4, vi i5] [] Q)) :
    RY d 2 36 [vr 70, vi i1, vi i2, vi i3, vi i4, vi i5] [] V D Q := yat (c := xk_2) (hd := []) (dk := []) (dv := []) (nb := []) rfl h
set_option maxRecDepth 20000 in
theorem u_2_45 {d : Nat} {i1 i2 i3 i4 i5 : Int} {V : xF} {D : yD} {Q : xRes → xF → yD → Prop}
    (h : RY d 122 0 [vr 76, vi i5, vr 0] [] V D (yback d 2 54 [vr 70, vi i1, vi i2, vi i3, vi i4, vi i5] [] Q)) :
    RY d 2 45 [vr 70, vi i1, vi i2, vi i3, vi i4, vi i5] [] V D Q := yat (c := xk_2) (hd := []) (dk := []) (dv := []) (nb := []) rfl h
set_option maxRecDepth 20000 in
theorem u_2_54 {d : Nat} {i1 i2 i3 i4 i5 : Int} {V : xF} {D : yD} {Q : xRes → xF → yD → Prop}
    (h : Q (.inl (some (vi (V 76 1)))) V D) :
    RY d 2 54 [vr 70, vi i1, vi i2, vi i3, vi i4, vi i5] [] V D Q := yat (c := xk_2) (hd := []) (dk := []) (dv := []) (nb := []) rfl h
set_option maxRecDepth 20000 in
theorem u_3_0 {d : Nat} {i1 i2 i3 i4 i5 : Int} {V : xF} {D : yD} {Q : xRes → xF → yD → Prop}
    (h : ∀ V1 : xF, V1 = up2 V 405 0 0 → (((wr ((V1 405 8) + 20)) ≤ 400 → RY d 3 23 [vr 405, vi i1, vi i2, vi i3, vi i4, vi i5, vi 0, vr 0] [] V1 D Q) ∧ ((400 : Int) < (wr ((V1 405 8) + 20)) → Q (.inl (some (vi ((-1))))) V1 D))) :
    RY d 3 0 [vr 405, vi i1, vi i2, vi i3, vi i4, vi i5, vr 0, vr 0] [] V D Q := yat (c := xk_3) (hd := [30023]) (dk := []) (dv := []) (nb := [30015]) rfl h
set_option maxRecDepth 20000 in
theorem u_3_23 {d : Nat} {i1 i2 i3 i4 i5 i6 : Int} {v7 : xV} {V : xF} {D : yD} {Q : xRes → xF → yD → Prop}
    (h : ((20 : Int) ≤ i6 → Q (.inl (some (vi (V 405 8)))) V D) ∧ (i6 < 20 → (((4 : Int) ≤ i6 → (((8 : Int) ≤ i6 → (((12 : Int) ≤ i6 → (((16 : Int) ≤ i6 → (((0 : Int) ≤ V 405 8 ∧ V 405 8 < (400 : Int)) ∧ (∀ V1 : xF, V1 = up2 V 410 ((V 405 8).toNat) (xand (xushr i5 (wr ((24 : Int) - (wr ((8 : Int) * (i6.tmod 4)))))) 255) → ∀ V2 : xF, V2 = up2 V1 405 8 (wr ((V1 405 8) + 1)) → RY d 3 23 [vr 405, vi i1, vi i2, vi i3, vi i4, vi i5, vi (wr (i6 + 1)), vi i5] [] V2 D Q))) ∧ (i6 < 16 → (((0 : Int) ≤ V 405 8 ∧ V 405 8 < (400 : Int)) ∧ (∀ V3 : xF, V3 = up2 V 410 ((V 405 8).toNat) (xand (xushr i4 (wr ((24 : Int) - (wr ((8 : Int) * (i6.tmod 4)))))) 255) → ∀ V4 : xF, V4 = up2 V3 405 8 (wr ((V3 405 8) + 1)) → RY d 3 23 [vr 405, vi i1, vi i2, vi i3, vi i4, vi i5, vi (wr (i6 + 1)), vi i4] [] V4 D Q))))) ∧ (i6 < 12 → (((0 : Int) ≤ V 405 8 ∧ V 405 8 < (400 : Int)) ∧ (∀ V5 : xF, V5 = up2 V 410 ((V 405 8).toNat) (xand (xushr i3 (wr ((24 : Int) - (wr ((8 : Int) * (i6.tmod 4)))))) 255) → ∀ V6 : xF, V6 = up2 V5 405 8 (wr ((V5 405 8) + 1)) → RY d 3 23 [vr 405, vi i1, vi i2, vi i3, vi i4, vi i5, vi (wr (i6 + 1)), vi i3] [] V6 D Q))))) ∧ (i6 < 8 → (((0 : Int) ≤ V 405 8 ∧ V 405 8 < (400 : Int)) ∧ (∀ V7 : xF, V7 = up2 V 410 ((V 405 8).toNat) (xand (xushr i2 (wr ((24 : Int) - (wr ((8 : Int) * (i6.tmod 4)))))) 255) → ∀ V8 : xF, V8 = up2 V7 405 8 (wr ((V7 405 8) + 1)) → RY d 3 23 [vr 405, vi i1, vi i2, vi i3, vi i4, vi i5, vi (wr (i6 + 1)), vi i2] [] V8 D Q))))) ∧ (i6 < 4 → (((0 : Int) ≤ V 405 8 ∧ V 405 8 < (400 : Int)) ∧ (∀ V9 : xF, V9 = up2 V 410 ((V 405 8).toNat) (xand (xushr i1 (wr ((24 : Int) - (wr ((8 : Int) * (i6.tmod 4)))))) 255) → ∀ V10 : xF, V10 = up2 V9 405 8 (wr ((V9 405 8) + 1)) → RY d 3 23 [vr 405, vi i1, vi i2, vi i3, vi i4, vi i5, vi (wr (i6 + 1)), vi i1] [] V10 D Q)))))) :
    RY d 3 23 [vr 405, vi i1, vi i2, vi i3, vi i4, vi i5, vi i6, v7] [] V D Q := yat (c := xk_3) (hd := [30023]) (dk := []) (dv := [30103]) (nb := [30027, 30033, 30044, 30055, 30066]) rfl h
set_option maxRecDepth 20000 in
theorem u_4_0 {d : Nat} {i1 : Int} {V : xF} {D : yD} {Q : xRes → xF → yD → Prop}
    (h : RY d 123 0 [vr 76, vi i1] [] V D (yback d 4 8 [vr 70, vi i1] [] Q)) :
    RY d 4 0 [vr 70, vi i1] [] V D Q := yat (c := xk_4) (hd := []) (dk := []) (dv := []) (nb := []) rfl h
set_option maxRecDepth 20000 in
theorem u_4_8 {d : Nat} {i1 i_0 : Int} {V : xF} {D : yD} {Q : xRes → xF → yD → Prop}
    (h : (i_0 = 0 ∨ i_0 = 1) ∧ Q (.inl (some (vi i_0))) V D) :
    RY d 4 8 [vr 70, vi i1] [vi i_0] V D Q := yat (c := xk_4) (hd := []) (dk := []) (dv := [40008]) (nb := []) rfl h
set_option maxRecDepth 20000 in
theorem u_6_0 {d : Nat} {V : xF} {D : yD} {Q : xRes → xF → yD → Prop}
    (h : RY d 125 0 [vr 70, vr 0] [] V D (yback d 6 6 [vr 70, vr 420, vr 0] [vi 0, vr 420] Q)) :
    RY d 6 0 [vr 70, vr 420, vr 0] [] V D Q := yat (c := xk_6) (hd := []) (dk := []) (dv := []) (nb := []) rfl h
set_option maxRecDepth 20000 in
theorem u_6_6 {d : Nat} {i_1 i_2 : Int} {V : xF} {D : yD} {Q : xRes → xF → yD → Prop}
    (h : ((0 : Int) ≤ i_1 ∧ i_1 < (1 : Int)) ∧ (∀ D1 : yD, D1 = (up2 D.1 420 i_1.toNat i_2, D.2) → Q (.inl (some (vi 0))) V D1)) :
    RY d 6 6 [vr 70, vr 420, vr 0] [vi i_2, vi i_1, vr 420] V D Q := yat (c := xk_6) (hd := []) (dk := []) (dv := [60007]) (nb := []) rfl h
set_option maxRecDepth 20000 in
theorem u_6_11 {d : Nat} {V : xF} {D : yD} {Q : xRes → xF → yD → Prop}
    (h : Q (.inl (some (vi 1))) V D) :
    RY d 6 11 [vr 70, vr 420, vr 0] [vr 0] V D Q := yat (c := xk_6) (hd := []) (dk := []) (dv := []) (nb := []) rfl h
set_option maxRecDepth 20000 in
theorem u_6_14 {d : Nat} {V : xF} {D : yD} {Q : xRes → xF → yD → Prop}
    (h : Q (.inl (some (vi 2))) V D) :
    RY d 6 14 [vr 70, vr 420, vr 0] [vr 0] V D Q := yat (c := xk_6) (hd := []) (dk := []) (dv := []) (nb := []) rfl h
set_option maxRecDepth 20000 in
theorem u_7_0 {d : Nat} {V : xF} {D : yD} {Q : xRes → xF → yD → Prop}
    (h : RY d 126 0 [vr 405, vr 0] [] V D (yback d 7 4 [vr 405, vr 0] [] Q)) :
    RY d 7 0 [vr 405, vr 0] [] V D Q := yat (c := xk_7) (hd := []) (dk := []) (dv := []) (nb := []) rfl h
set_option maxRecDepth 20000 in
theorem u_7_4 {d : Nat} {V : xF} {D : yD} {Q : xRes → xF → yD → Prop}
    (h : ∀ V1 : xF, V1 = up2 V 405 12 ((-1)) → ∀ V2 : xF, V2 = up2 V1 405 9 ((-1)) → ∀ V3 : xF, V3 = up2 V2 405 10 (V2 405 8) → ∀ V4 : xF, V4 = up2 V3 405 8 0 → ∀ V5 : xF, V5 = up2 V4 405 11 0 → ∀ V6 : xF, V6 = up2 V5 405 13 0 → RY d 128 0 [vr 405, vi 0, vr 0, vr 0] [] V6 D (yback d 7 13 [vr 405, vr 0] [] Q)) :
    RY d 7 4 [vr 405, vr 0] [] V D Q := yat (c := xk_7) (hd := []) (dk := []) (dv := []) (nb := []) rfl h
set_option maxRecDepth 20000 in
theorem u_7_13 {d : Nat} {i_0 : Int} {V : xF} {D : yD} {Q : xRes → xF → yD → Prop}
    (h : ((V 405 12) = ((-1)) → (((V 406 0) ≠ 12 → ∀ V1 : xF, V1 = up2 V 405 0 0 → (((V1 405 0) ≤ 0 → ∀ V2 : xF, V2 = up2 V1 406 0 (wr ((V1 406 0) + 1)) → ∀ V3 : xF, V3 = up2 V2 405 6 0 → Q (.inl (some (vi (V3 406 0)))) V3 D) ∧ ((0 : Int) < (V1 405 0) → RY d 129 0 [vr 405, vr 0] [] V1 D (yback d 7 57 [vr 405, vi i_0] [] Q)))) ∧ ((V 406 0) = 12 → ∀ V4 : xF, V4 = up2 V 405 0 2 → (((V4 405 0) ≤ 0 → ∀ V5 : xF, V5 = up2 V4 406 0 (wr ((V4 406 0) + 1)) → ∀ V6 : xF, V6 = up2 V5 405 6 0 → Q (.inl (some (vi (V6 406 0)))) V6 D) ∧ ((0 : Int) < (V4 405 0) → RY d 129 0 [vr 405, vr 0] [] V4 D (yback d 7 57 [vr 405, vi i_0] [] Q)))))) ∧ ((V 405 12) ≠ ((-1)) → ∀ V7 : xF, V7 = up2 V 405 0 1 → (((V7 405 0) ≤ 0 → ∀ V8 : xF, V8 = up2 V7 406 0 (wr ((V7 406 0) + 1)) → ∀ V9 : xF, V9 = up2 V8 405 6 0 → Q (.inl (some (vi (V9 406 0)))) V9 D) ∧ ((0 : Int) < (V7 405 0) → RY d 129 0 [vr 405, vr 0] [] V7 D (yback d 7 57 [vr 405, vi i_0] [] Q))))) :
    RY d 7 13 [vr 405, vr 0] [vi i_0] V D Q := yat (c := xk_7) (hd := []) (dk := []) (dv := []) (nb := [70020, 70035, 70050]) rfl h
set_option maxRecDepth 20000 in
theorem u_7_57 {d : Nat} {i1 : Int} {V : xF} {D : yD} {Q : xRes → xF → yD → Prop}
    (h : Q (.inl (some (vi 0))) V D) :
    RY d 7 57 [vr 405, vi i1] [] V D Q := yat (c := xk_7) (hd := []) (dk := []) (dv := []) (nb := []) rfl h
set_option maxRecDepth 20000 in
theorem u_9_0 {d : Nat} {V : xF} {D : yD} {Q : xRes → xF → yD → Prop}
    (h : RY d 130 0 [vr 70, vr 0] [] V D (yback d 9 6 [vr 70, vr 420, vr 0] [vi 0, vr 420] Q)) :
    RY d 9 0 [vr 70, vr 420, vr 0] [] V D Q := yat (c := xk_9) (hd := []) (dk := []) (dv := []) (nb := []) rfl h
set_option maxRecDepth 20000 in
theorem u_9_6 {d : Nat} {i_1 i_2 : Int} {V : xF} {D : yD} {Q : xRes → xF → yD → Prop}
    (h : ((0 : Int) ≤ i_1 ∧ i_1 < (1 : Int)) ∧ (∀ D1 : yD, D1 = (up2 D.1 420 i_1.toNat i_2, D.2) → Q (.inl (some (vi 0))) V D1)) :
    RY d 9 6 [vr 70, vr 420, vr 0] [vi i_2, vi i_1, vr 420] V D Q := yat (c := xk_9) (hd := []) (dk := []) (dv := [90007]) (nb := []) rfl h
set_option maxRecDepth 20000 in
theorem u_9_11 {d : Nat} {V : xF} {D : yD} {Q : xRes → xF → yD → Prop}
    (h : Q (.inl (some (vi 1))) V D) :
    RY d 9 11 [vr 70, vr 420, vr 0] [vr 0] V D Q := yat (c := xk_9) (hd := []) (dk := []) (dv := []) (nb := []) rfl h
set_option maxRecDepth 20000 in
theorem u_10_0 {d : Nat} {V : xF} {D : yD} {Q : xRes → xF → yD → Prop}
    (h : ∀ V1 : xF, V1 = up2 V 405 12 ((-1)) → ∀ V2 : xF, V2 = up2 V1 405 9 ((-1)) → ∀ V3 : xF, V3 = up2 V2 405 10 (V2 405 8) → ∀ V4 : xF, V4 = up2 V3 405 8 0 → ∀ V5 : xF, V5 = up2 V4 405 11 0 → ∀ V6 : xF, V6 = up2 V5 405 13 0 → RY d 128 0 [vr 405, vi 1, vr 0, vr 0] [] V6 D (yback d 10 9 [vr 405, vr 0, vr 0] [] Q)) :
    RY d 10 0 [vr 405, vr 0, vr 0] [] V D Q := yat (c := xk_10) (hd := [100055]) (dk := []) (dv := []) (nb := []) rfl h
set_option maxRecDepth 20000 in
theorem u_10_9 {d : Nat} {i_0 : Int} {V : xF} {D : yD} {Q : xRes → xF → yD → Prop}
    (h : ((V 405 12) = ((-1)) → ∀ V1 : xF, V1 = up2 V 405 0 0 → (((V1 405 0) ≤ 0 → ∀ V2 : xF, V2 = up2 V1 406 1 i_0 → ∀ V3 : xF, V3 = up2 V2 406 2 (V2 405 10) → RY d 10 55 [vr 405, vi i_0, vi 0] [] V3 D Q) ∧ ((0 : Int) < (V1 405 0) → Q (.inl (some (vi 0))) V1 D))) ∧ ((V 405 12) ≠ ((-1)) → ∀ V4 : xF, V4 = up2 V 405 0 1 → (((V4 405 0) ≤ 0 → ∀ V5 : xF, V5 = up2 V4 406 1 i_0 → ∀ V6 : xF, V6 = up2 V5 406 2 (V5 405 10) → RY d 10 55 [vr 405, vi i_0, vi 0] [] V6 D Q) ∧ ((0 : Int) < (V4 405 0) → Q (.inl (some (vi 0))) V4 D)))) :
    RY d 10 9 [vr 405, vr 0, vr 0] [vi i_0] V D Q := yat (c := xk_10) (hd := [100055]) (dk := []) (dv := []) (nb := [100016, 100031]) rfl h
set_option maxRecDepth 20000 in
theorem u_10_55 {d : Nat} {i1 i2 : Int} {V : xF} {D : yD} {Q : xRes → xF → yD → Prop}
    (h : ((V 405 10) ≤ i2 → ∀ V1 : xF, V1 = up2 V 405 6 0 → Q (.inl (some (vi i1))) V1 D) ∧ (i2 < (V 405 10) → (((0 : Int) ≤ i2 ∧ i2 < (400 : Int)) ∧ ((0 : Int) ≤ wr ((331 : Int) + i2) ∧ wr ((331 : Int) + i2) < (731 : Int)) ∧ (∀ V2 : xF, V2 = up2 V 406 ((wr ((331 : Int) + i2)).toNat) (V 410 i2.toNat) → RY d 10 55 [vr 405, vi i1, vi (wr (i2 + 1))] [] V2 D Q)))) :
    RY d 10 55 [vr 405, vi i1, vi i2] [] V D Q := yat (c := xk_10) (hd := [100055]) (dk := []) (dv := [100077, 100078]) (nb := [100060]) rfl h
set_option maxRecDepth 20000 in
theorem u_13_0 {d : Nat} {i1 i2 : Int} {V : xF} {D : yD} {Q : xRes → xF → yD → Prop}
    (h : RY d 131 0 [vr 70, vi i1, vi i2] [] V D (yback d 13 8 [vr 70, vi i1, vi i2, vr 420, vr 0] [vi 0, vr 420] Q)) :
    RY d 13 0 [vr 70, vi i1, vi i2, vr 420, vr 0] [] V D Q := yat (c := xk_13) (hd := []) (dk := []) (dv := []) (nb := []) rfl h
set_option maxRecDepth 20000 in
theorem u_13_8 {d : Nat} {i1 i2 i_1 i_2 : Int} {V : xF} {D : yD} {Q : xRes → xF → yD → Prop}
    (h : ((0 : Int) ≤ i_1 ∧ i_1 < (1 : Int)) ∧ (∀ D1 : yD, D1 = (up2 D.1 420 i_1.toNat i_2, D.2) → Q (.inl (some (vi 0))) V D1)) :
    RY d 13 8 [vr 70, vi i1, vi i2, vr 420, vr 0] [vi i_2, vi i_1, vr 420] V D Q := yat (c := xk_13) (hd := []) (dk := []) (dv := [130009]) (nb := []) rfl h
set_option maxRecDepth 20000 in
theorem u_13_13 {d : Nat} {i1 i2 : Int} {V : xF} {D : yD} {Q : xRes → xF → yD → Prop}
    (h : Q (.inl (some (vi 1))) V D) :
    RY d 13 13 [vr 70, vi i1, vi i2, vr 420, vr 0] [vr 0] V D Q := yat (c := xk_13) (hd := []) (dk := []) (dv := []) (nb := []) rfl h
set_option maxRecDepth 20000 in
theorem u_13_17 {d : Nat} {i1 i2 : Int} {V : xF} {D : yD} {Q : xRes → xF → yD → Prop}
    (h : Q (.inl (some (vi 2))) V D) :
    RY d 13 17 [vr 70, vi i1, vi i2, vr 420, vr 0] [vr 0] V D Q := yat (c := xk_13) (hd := []) (dk := []) (dv := []) (nb := []) rfl h
set_option maxRecDepth 20000 in
theorem u_14_0 {d : Nat} {i1 i2 : Int} {V : xF} {D : yD} {Q : xRes → xF → yD → Prop}
    (h : yg_132 i1 V D ∧ (((yr_132 i1 V D) ≠ 0 → (((yr_124 i2 0 13 V D) ≠ 0 → ∀ V1 : xF, V1 = up2 V 405 0 0 → RY d 14 31 [vr 405, vi i1, vi i2] [] V1 D Q) ∧ ((yr_124 i2 0 13 V D) = 0 → ∀ V2 : xF, V2 = up2 V 405 0 2 → RY d 14 31 [vr 405, vi i1, vi i2] [] V2 D Q))) ∧ ((yr_132 i1 V D) = 0 → ∀ V3 : xF, V3 = up2 V 405 0 1 → RY d 14 31 [vr 405, vi i1, vi i2] [] V3 D Q))) :
    RY d 14 0 [vr 405, vi i1, vi i2] [] V D Q := yat (c := xk_14) (hd := [140031]) (dk := []) (dv := []) (nb := [140006, 140020]) rfl h
set_option maxRecDepth 20000 in
theorem u_14_31 {d : Nat} {i1 i2 : Int} {V : xF} {D : yD} {Q : xRes → xF → yD → Prop}
    (h : ((V 405 0) ≤ 0 → (((7 : Int) ≤ i2 → ((i2 ≠ 7 → ((i2 ≠ 8 → ((i2 ≠ 9 → ((i2 ≠ 10 → ((i2 ≠ 11 → ((i2 ≠ 12 → RY d 140 0 [vr 405, vi i1, vr 0] [] V D (yback d 14 132 [vr 405, vi i1, vi i2] [] Q)) ∧ (i2 = 12 → RY d 139 0 [vr 405, vi i1, vr 0, vr 0] [] V D (yback d 14 124 [vr 405, vi i1, vi i2] [] Q)))) ∧ (i2 = 11 → RY d 138 0 [vr 405, vi i1, vr 0, vr 0, vr 0, vr 0, vr 0, vr 0] [] V D (yback d 14 112 [vr 405, vi i1, vi i2] [] Q)))) ∧ (i2 = 10 → RY d 137 0 [vr 405, vi i1, vr 0, vr 0, vr 0, vr 0, vr 0] [] V D (yback d 14 100 [vr 405, vi i1, vi i2] [] Q)))) ∧ (i2 = 9 → RY d 136 0 [vr 405, vi i1, vr 0, vr 0, vr 0] [] V D (yback d 14 88 [vr 405, vi i1, vi i2] [] Q)))) ∧ (i2 = 8 → RY d 135 0 [vr 405, vi i1] [] V D (yback d 14 76 [vr 405, vi i1, vi i2] [] Q)))) ∧ (i2 = 7 → RY d 134 0 [vr 405, vi i1, vr 0, vr 0] [] V D (yback d 14 64 [vr 405, vi i1, vi i2] [] Q)))) ∧ (i2 < 7 → (yg_133 i1 i2 V D ∧ Q (.inl (some (vi (yr_133 i1 i2 V D)))) V D)))) ∧ ((0 : Int) < (V 405 0) → Q (.inl (some (vi 0))) V D)) :
    RY d 14 31 [vr 405, vi i1, vi i2] [] V D Q := yat (c := xk_14) (hd := [140031]) (dk := []) (dv := []) (nb := [140035, 140043, 140056, 140068, 140080, 140092, 140104, 140116]) rfl h
set_option maxRecDepth 20000 in
theorem u_14_64 {d : Nat} {i1 i2 i_0 : Int} {V : xF} {D : yD} {Q : xRes → xF → yD → Prop}
    (h : Q (.inl (some (vi i_0))) V D) :
    RY d 14 64 [vr 405, vi i1, vi i2] [vi i_0] V D Q := yat (c := xk_14) (hd := [140031]) (dk := []) (dv := []) (nb := []) rfl h
set_option maxRecDepth 20000 in
theorem u_14_76 {d : Nat} {i1 i2 i_0 : Int} {V : xF} {D : yD} {Q : xRes → xF → yD → Prop}
    (h : Q (.inl (some (vi i_0))) V D) :
    RY d 14 76 [vr 405, vi i1, vi i2] [vi i_0] V D Q := yat (c := xk_14) (hd := [140031]) (dk := []) (dv := []) (nb := []) rfl h
set_option maxRecDepth 20000 in
theorem u_14_88 {d : Nat} {i1 i2 i_0 : Int} {V : xF} {D : yD} {Q : xRes → xF → yD → Prop}
    (h : Q (.inl (some (vi i_0))) V D) :
    RY d 14 88 [vr 405, vi i1, vi i2] [vi i_0] V D Q := yat (c := xk_14) (hd := [140031]) (dk := []) (dv := []) (nb := []) rfl h
set_option maxRecDepth 20000 in
theorem u_14_100 {d : Nat} {i1 i2 i_0 : Int} {V : xF} {D : yD} {Q : xRes → xF → yD → Prop}
    (h : Q (.inl (some (vi i_0))) V D) :
    RY d 14 100 [vr 405, vi i1, vi i2] [vi i_0] V D Q := yat (c := xk_14) (hd := [140031]) (dk := []) (dv := []) (nb := []) rfl h
set_option maxRecDepth 20000 in
theorem u_14_112 {d : Nat} {i1 i2 i_0 : Int} {V : xF} {D : yD} {Q : xRes → xF → yD → Prop}
    (h : Q (.inl (some (vi i_0))) V D) :
    RY d 14 112 [vr 405, vi i1, vi i2] [vi i_0] V D Q := yat (c := xk_14) (hd := [140031]) (dk := []) (dv := []) (nb := []) rfl h
set_option maxRecDepth 20000 in
theorem u_14_124 {d : Nat} {i1 i2 i_0 : Int} {V : xF} {D : yD} {Q : xRes → xF → yD → Prop}
    (h : Q (.inl (some (vi i_0))) V D) :
    RY d 14 124 [vr 405, vi i1, vi i2] [vi i_0] V D Q := yat (c := xk_14) (hd := [140031]) (dk := []) (dv := []) (nb := []) rfl h
set_option maxRecDepth 20000 in
theorem u_14_132 {d : Nat} {i1 i2 i_0 : Int} {V : xF} {D : yD} {Q : xRes → xF → yD → Prop}
    (h : Q (.inl (some (vi i_0))) V D) :
    RY d 14 132 [vr 405, vi i1, vi i2] [vi i_0] V D Q := yat (c := xk_14) (hd := [140031]) (dk := []) (dv := []) (nb := []) rfl h
set_option maxRecDepth 20000 in
theorem u_15_0 {d : Nat} {i1 i2 : Int} {V : xF} {D : yD} {Q : xRes → xF → yD → Prop}
    (h : RY d 141 0 [vr 70, vi i1, vi i2] [] V D (yback d 15 8 [vr 70, vi i1, vi i2, vr 420, vr 0] [vi 0, vr 420] Q)) :
    RY d 15 0 [vr 70, vi i1, vi i2, vr 420, vr 0] [] V D Q := yat (c := xk_15) (hd := []) (dk := []) (dv := []) (nb := []) rfl h
set_option maxRecDepth 20000 in
theorem u_15_8 {d : Nat} {i1 i2 i_1 i_2 : Int} {V : xF} {D : yD} {Q : xRes → xF → yD → Prop}
    (h : ((0 : Int) ≤ i_1 ∧ i_1 < (1 : Int)) ∧ (∀ D1 : yD, D1 = (up2 D.1 420 i_1.toNat i_2, D.2) → Q (.inl (some (vi 0))) V D1)) :
    RY d 15 8 [vr 70, vi i1, vi i2, vr 420, vr 0] [vi i_2, vi i_1, vr 420] V D Q := yat (c := xk_15) (hd := []) (dk := []) (dv := [150009]) (nb := []) rfl h
set_option maxRecDepth 20000 in
theorem u_15_13 {d : Nat} {i1 i2 : Int} {V : xF} {D : yD} {Q : xRes → xF → yD → Prop}
    (h : Q (.inl (some (vi 1))) V D) :
    RY d 15 13 [vr 70, vi i1, vi i2, vr 420, vr 0] [vr 0] V D Q := yat (c := xk_15) (hd := []) (dk := []) (dv := []) (nb := []) rfl h
set_option maxRecDepth 20000 in
theorem u_15_17 {d : Nat} {i1 i2 : Int} {V : xF} {D : yD} {Q : xRes → xF → yD → Prop}
    (h : Q (.inl (some (vi 2))) V D) :
    RY d 15 17 [vr 70, vi i1, vi i2, vr 420, vr 0] [vr 0] V D Q := yat (c := xk_15) (hd := []) (dk := []) (dv := []) (nb := []) rfl h
set_option maxRecDepth 20000 in
theorem u_16_0 {d : Nat} {i1 i2 : Int} {V : xF} {D : yD} {Q : xRes → xF → yD → Prop}
    (h : yg_142 i1 V D ∧ (((yr_142 i1 V D) ≠ 0 → (((yr_124 i2 0 4 V D) ≠ 0 → ∀ V1 : xF, V1 = up2 V 405 0 0 → (((V1 405 0) ≤ 0 → (((3 : Int) ≤ i2 → ((i2 ≠ 3 → RY d 145 0 [vr 405, vi i1, vr 0, vr 0, vr 0] [] V1 D (yback d 16 70 [vr 405, vi i1, vi i2] [] Q)) ∧ (i2 = 3 → RY d 144 0 [vr 405, vi i1, vi 0, vr 0, vr 0, vr 0] [] V1 D (yback d 16 62 [vr 405, vi i1, vi i2] [] Q)))) ∧ (i2 < 3 → (yg_143 i1 i2 V1 D ∧ Q (.inl (some (vi (yr_143 i1 i2 V1 D)))) V1 D)))) ∧ ((0 : Int) < (V1 405 0) → Q (.inl (some (vi 0))) V1 D))) ∧ ((yr_124 i2 0 4 V D) = 0 → ∀ V2 : xF, V2 = up2 V 405 0 2 → (((V2 405 0) ≤ 0 → (((3 : Int) ≤ i2 → ((i2 ≠ 3 → RY d 145 0 [vr 405, vi i1, vr 0, vr 0, vr 0] [] V2 D (yback d 16 70 [vr 405, vi i1, vi i2] [] Q)) ∧ (i2 = 3 → RY d 144 0 [vr 405, vi i1, vi 0, vr 0, vr 0, vr 0] [] V2 D (yback d 16 62 [vr 405, vi i1, vi i2] [] Q)))) ∧ (i2 < 3 → (yg_143 i1 i2 V2 D ∧ Q (.inl (some (vi (yr_143 i1 i2 V2 D)))) V2 D)))) ∧ ((0 : Int) < (V2 405 0) → Q (.inl (some (vi 0))) V2 D))))) ∧ ((yr_142 i1 V D) = 0 → ∀ V3 : xF, V3 = up2 V 405 0 1 → (((V3 405 0) ≤ 0 → (((3 : Int) ≤ i2 → ((i2 ≠ 3 → RY d 145 0 [vr 405, vi i1, vr 0, vr 0, vr 0] [] V3 D (yback d 16 70 [vr 405, vi i1, vi i2] [] Q)) ∧ (i2 = 3 → RY d 144 0 [vr 405, vi i1, vi 0, vr 0, vr 0, vr 0] [] V3 D (yback d 16 62 [vr 405, vi i1, vi i2] [] Q)))) ∧ (i2 < 3 → (yg_143 i1 i2 V3 D ∧ Q (.inl (some (vi (yr_143 i1 i2 V3 D)))) V3 D)))) ∧ ((0 : Int) < (V3 405 0) → Q (.inl (some (vi 0))) V3 D))))) :
    RY d 16 0 [vr 405, vi i1, vi i2] [] V D Q := yat (c := xk_16) (hd := []) (dk := []) (dv := []) (nb := [160006, 160019, 160034, 160041, 160053]) rfl h
set_option maxRecDepth 20000 in
theorem u_16_62 {d : Nat} {i1 i2 i_0 : Int} {V : xF} {D : yD} {Q : xRes → xF → yD → Prop}
    (h : Q (.inl (some (vi i_0))) V D) :
    RY d 16 62 [vr 405, vi i1, vi i2] [vi i_0] V D Q := yat (c := xk_16) (hd := []) (dk := []) (dv := []) (nb := []) rfl h
set_option maxRecDepth 20000 in
theorem u_16_70 {d : Nat} {i1 i2 i_0 : Int} {V : xF} {D : yD} {Q : xRes → xF → yD → Prop}
    (h : Q (.inl (some (vi i_0))) V D) :
    RY d 16 70 [vr 405, vi i1, vi i2] [vi i_0] V D Q := yat (c := xk_16) (hd := []) (dk := []) (dv := []) (nb := []) rfl h
set_option maxRecDepth 20000 in
theorem u_17_0 {d : Nat} {i1 i2 : Int} {V : xF} {D : yD} {Q : xRes → xF → yD → Prop}
    (h : RY d 146 0 [vr 70, vi i1, vi i2] [] V D (yback d 17 8 [vr 70, vi i1, vi i2, vr 420, vr 0] [vi 0, vr 420] Q)) :
    RY d 17 0 [vr 70, vi i1, vi i2, vr 420, vr 0] [] V D Q := yat (c := xk_17) (hd := []) (dk := []) (dv := []) (nb := []) rfl h
set_option maxRecDepth 20000 in
theorem u_17_8 {d : Nat} {i1 i2 i_1 i_2 : Int} {V : xF} {D : yD} {Q : xRes → xF → yD → Prop}
    (h : ((0 : Int) ≤ i_1 ∧ i_1 < (1 : Int)) ∧ (∀ D1 : yD, D1 = (up2 D.1 420 i_1.toNat i_2, D.2) → Q (.inl (some (vi 0))) V D1)) :
    RY d 17 8 [vr 70, vi i1, vi i2, vr 420, vr 0] [vi i_2, vi i_1, vr 420] V D Q := yat (c := xk_17) (hd := []) (dk := []) (dv := [170009]) (nb := []) rfl h
set_option maxRecDepth 20000 in
theorem u_17_13 {d : Nat} {i1 i2 : Int} {V : xF} {D : yD} {Q : xRes → xF → yD → Prop}
    (h : Q (.inl (some (vi 1))) V D) :
    RY d 17 13 [vr 70, vi i1, vi i2, vr 420, vr 0] [vr 0] V D Q := yat (c := xk_17) (hd := []) (dk := []) (dv := []) (nb := []) rfl h
set_option maxRecDepth 20000 in
theorem u_18_0 {d : Nat} {i1 i2 : Int} {V : xF} {D : yD} {Q : xRes → xF → yD → Prop}
    (h : yg_142 i1 V D ∧ (((yr_142 i1 V D) = 0 → ∀ V1 : xF, V1 = up2 V 405 0 1 → (((V1 405 0) ≤ 0 → RY d 147 0 [vr 405, vi i1, vi i2] [] V1 D (yback d 18 42 [vr 405, vi i1, vi i2] [] Q)) ∧ ((0 : Int) < (V1 405 0) → Q (.inl (some (vi 0))) V1 D))) ∧ ((yr_142 i1 V D) ≠ 0 → (yg_132 i2 V D ∧ (((yr_132 i2 V D) ≠ 0 → ∀ V2 : xF, V2 = up2 V 405 0 0 → (((V2 405 0) ≤ 0 → RY d 147 0 [vr 405, vi i1, vi i2] [] V2 D (yback d 18 42 [vr 405, vi i1, vi i2] [] Q)) ∧ ((0 : Int) < (V2 405 0) → Q (.inl (some (vi 0))) V2 D))) ∧ ((yr_132 i2 V D) = 0 → ∀ V3 : xF, V3 = up2 V 405 0 1 → (((V3 405 0) ≤ 0 → RY d 147 0 [vr 405, vi i1, vi i2] [] V3 D (yback d 18 42 [vr 405, vi i1, vi i2] [] Q)) ∧ ((0 : Int) < (V3 405 0) → Q (.inl (some (vi 0))) V3 D)))))))) :
    RY d 18 0 [vr 405, vi i1, vi i2] [] V D Q := yat (c := xk_18) (hd := []) (dk := []) (dv := []) (nb := [180006, 180014, 180029]) rfl h
set_option maxRecDepth 20000 in
theorem u_18_42 {d : Nat} {i1 i2 i_0 : Int} {V : xF} {D : yD} {Q : xRes → xF → yD → Prop}
    (h : Q (.inl (some (vi i_0))) V D) :
    RY d 18 42 [vr 405, vi i1, vi i2] [vi i_0] V D Q := yat (c := xk_18) (hd := []) (dk := []) (dv := []) (nb := []) rfl h
set_option maxRecDepth 20000 in
theorem u_19_0 {d : Nat} {i1 i2 : Int} {V : xF} {D : yD} {Q : xRes → xF → yD → Prop}
    (h : RY d 148 0 [vr 70, vi i1, vi i2] [] V D (yback d 19 8 [vr 70, vi i1, vi i2, vr 420, vr 0] [vi 0, vr 420] Q)) :
    RY d 19 0 [vr 70, vi i1, vi i2, vr 420, vr 0] [] V D Q := yat (c := xk_19) (hd := []) (dk := []) (dv := []) (nb := []) rfl h
set_option maxRecDepth 20000 in
theorem u_19_8 {d : Nat} {i1 i2 i_1 i_2 : Int} {V : xF} {D : yD} {Q : xRes → xF → yD → Prop}
    (h : (i_2 = 0 → (((0 : Int) ≤ i_1 ∧ i_1 < (1 : Int)) ∧ (∀ D1 : yD, D1 = (up2 D.1 420 i_1.toNat 0, D.2) → Q (.inl (some (vi 0))) V D1))) ∧ (i_2 ≠ 0 → (((0 : Int) ≤ i_1 ∧ i_1 < (1 : Int)) ∧ (∀ D2 : yD, D2 = (up2 D.1 420 i_1.toNat 1, D.2) → Q (.inl (some (vi 0))) V D2)))) :
    RY d 19 8 [vr 70, vi i1, vi i2, vr 420, vr 0] [vi i_2, vi i_1, vr 420] V D Q := yat (c := xk_19) (hd := []) (dk := []) (dv := [190016]) (nb := [190008]) rfl h
set_option maxRecDepth 20000 in
theorem u_19_20 {d : Nat} {i1 i2 : Int} {V : xF} {D : yD} {Q : xRes → xF → yD → Prop}
    (h : Q (.inl (some (vi 1))) V D) :
    RY d 19 20 [vr 70, vi i1, vi i2, vr 420, vr 0] [vr 0] V D Q := yat (c := xk_19) (hd := []) (dk := []) (dv := []) (nb := []) rfl h
set_option maxRecDepth 20000 in
theorem u_20_0 {d : Nat} {i1 i2 : Int} {V : xF} {D : yD} {Q : xRes → xF → yD → Prop}
    (h : yg_142 i1 V D ∧ (((yr_142 i1 V D) = 0 → ∀ V1 : xF, V1 = up2 V 405 0 1 → (((V1 405 0) ≠ 0 → Q (.inl (some (vi 0))) V1 D) ∧ ((V1 405 0) = 0 → RY d 149 0 [vr 405, vi i1, vi i2] [] V1 D (yback d 20 38 [vr 405, vi i1, vi i2] [] Q)))) ∧ ((yr_142 i1 V D) ≠ 0 → (yg_132 i2 V D ∧ (((yr_132 i2 V D) ≠ 0 → ∀ V2 : xF, V2 = up2 V 405 0 0 → (((V2 405 0) ≠ 0 → Q (.inl (some (vi 0))) V2 D) ∧ ((V2 405 0) = 0 → RY d 149 0 [vr 405, vi i1, vi i2] [] V2 D (yback d 20 38 [vr 405, vi i1, vi i2] [] Q)))) ∧ ((yr_132 i2 V D) = 0 → ∀ V3 : xF, V3 = up2 V 405 0 1 → (((V3 405 0) ≠ 0 → Q (.inl (some (vi 0))) V3 D) ∧ ((V3 405 0) = 0 → RY d 149 0 [vr 405, vi i1, vi i2] [] V3 D (yback d 20 38 [vr 405, vi i1, vi i2] [] Q))))))))) :
    RY d 20 0 [vr 405, vi i1, vi i2] [] V D Q := yat (c := xk_20) (hd := []) (dk := []) (dv := []) (nb := [200006, 200014, 200029]) rfl h
set_option maxRecDepth 20000 in
theorem u_20_38 {d : Nat} {i1 i2 i_0 : Int} {V : xF} {D : yD} {Q : xRes → xF → yD → Prop}
    (h : (i_0 = 0 → Q (.inl (some (vi 0))) V D) ∧ (i_0 ≠ 0 → Q (.inl (some (vi 1))) V D)) :
    RY d 20 38 [vr 405, vi i1, vi i2] [vi i_0] V D Q := yat (c := xk_20) (hd := []) (dk := []) (dv := []) (nb := [200038]) rfl h
set_option maxRecDepth 20000 in
theorem u_21_0 {d : Nat} {i1 i2 : Int} {V : xF} {D : yD} {Q : xRes → xF → yD → Prop}
    (h : RY d 150 0 [vr 70, vi i1, vi i2] [] V D (yback d 21 8 [vr 70, vi i1, vi i2, vr 420, vr 0] [vi 0, vr 420] Q)) :
    RY d 21 0 [vr 70, vi i1, vi i2, vr 420, vr 0] [] V D Q := yat (c := xk_21) (hd := []) (dk := []) (dv := []) (nb := []) rfl h
set_option maxRecDepth 20000 in
theorem u_21_8 {d : Nat} {i1 i2 i_1 i_2 : Int} {V : xF} {D : yD} {Q : xRes → xF → yD → Prop}
    (h : (i_2 = 0 → (((0 : Int) ≤ i_1 ∧ i_1 < (1 : Int)) ∧ (∀ D1 : yD, D1 = (up2 D.1 420 i_1.toNat 0, D.2) → Q (.inl (some (vi 0))) V D1))) ∧ (i_2 ≠ 0 → (((0 : Int) ≤ i_1 ∧ i_1 < (1 : Int)) ∧ (∀ D2 : yD, D2 = (up2 D.1 420 i_1.toNat 1, D.2) → Q (.inl (some (vi 0))) V D2)))) :
    RY d 21 8 [vr 70, vi i1, vi i2, vr 420, vr 0] [vi i_2, vi i_1, vr 420] V D Q := yat (c := xk_21) (hd := []) (dk := []) (dv := [210016]) (nb := [210008]) rfl h
set_option maxRecDepth 20000 in
theorem u_21_20 {d : Nat} {i1 i2 : Int} {V : xF} {D : yD} {Q : xRes → xF → yD → Prop}
    (h : Q (.inl (some (vi 1))) V D) :
    RY d 21 20 [vr 70, vi i1, vi i2, vr 420, vr 0] [vr 0] V D Q := yat (c := xk_21) (hd := []) (dk := []) (dv := []) (nb := []) rfl h
set_option maxRecDepth 20000 in
theorem u_21_24 {d : Nat} {i1 i2 : Int} {V : xF} {D : yD} {Q : xRes → xF → yD → Prop}
    (h : Q (.inl (some (vi 2))) V D) :
    RY d 21 24 [vr 70, vi i1, vi i2, vr 420, vr 0] [vr 0] V D Q := yat (c := xk_21) (hd := []) (dk := []) (dv := []) (nb := []) rfl h
set_option maxRecDepth 20000 in
theorem u_22_0 {d : Nat} {i1 i2 : Int} {V : xF} {D : yD} {Q : xRes → xF → yD → Prop}
    (h : RY d 151 0 [vr 405, vi i1, vi i2] [] V D (yback d 22 6 [vr 405, vi i1, vi i2] [] Q)) :
    RY d 22 0 [vr 405, vi i1, vi i2] [] V D Q := yat (c := xk_22) (hd := []) (dk := []) (dv := []) (nb := []) rfl h
set_option maxRecDepth 20000 in
theorem u_22_6 {d : Nat} {i1 i2 : Int} {V : xF} {D : yD} {Q : xRes → xF → yD → Prop}
    (h : ((V 405 0) ≠ 0 → Q (.inl (some (vi 0))) V D) ∧ ((V 405 0) = 0 → (yg_152 i1 i2 V D ∧ (((yr_152 i1 i2 V D) = 0 → Q (.inl (some (vi 0))) V D) ∧ ((yr_152 i1 i2 V D) ≠ 0 → Q (.inl (some (vi 1))) V D))))) :
    RY d 22 6 [vr 405, vi i1, vi i2] [] V D Q := yat (c := xk_22) (hd := []) (dk := []) (dv := []) (nb := [220010, 220019]) rfl h
set_option maxRecDepth 20000 in
theorem u_23_0 {d : Nat} {i1 i2 i3 i4 i5 : Int} {V : xF} {D : yD} {Q : xRes → xF → yD → Prop}
    (h : RY d 153 0 [vr 70, vi i1, vi i2, vi i3, vi i4, vi i5, vr 0] [] V D (yback d 23 14 [vr 70, vi i1, vi i2, vi i3, vi i4, vi i5, vr 420, vr 0] [vi 0, vr 420] Q)) :
    RY d 23 0 [vr 70, vi i1, vi i2, vi i3, vi i4, vi i5, vr 420, vr 0] [] V D Q := yat (c := xk_23) (hd := []) (dk := []) (dv := []) (nb := []) rfl h
set_option maxRecDepth 20000 in
theorem u_23_14 {d : Nat} {i1 i2 i3 i4 i5 i_1 i_2 : Int} {V : xF} {D : yD} {Q : xRes → xF → yD → Prop}
    (h : ((0 : Int) ≤ i_1 ∧ i_1 < (1 : Int)) ∧ (∀ D1 : yD, D1 = (up2 D.1 420 i_1.toNat i_2, D.2) → Q (.inl (some (vi 0))) V D1)) :
    RY d 23 14 [vr 70, vi i1, vi i2, vi i3, vi i4, vi i5, vr 420, vr 0] [vi i_2, vi i_1, vr 420] V D Q := yat (c := xk_23) (hd := []) (dk := []) (dv := [230015]) (nb := []) rfl h
set_option maxRecDepth 20000 in
theorem u_23_19 {d : Nat} {i1 i2 i3 i4 i5 : Int} {V : xF} {D : yD} {Q : xRes → xF → yD → Prop}
    (h : Q (.inl (some (vi 1))) V D) :
    RY d 23 19 [vr 70, vi i1, vi i2, vi i3, vi i4, vi i5, vr 420, vr 0] [vr 0] V D Q := yat (c := xk_23) (hd := []) (dk := []) (dv := []) (nb := []) rfl h
set_option maxRecDepth 20000 in
theorem u_24_0 {d : Nat} {i1 i2 i3 i4 i5 : Int} {V : xF} {D : yD} {Q : xRes → xF → yD → Prop}
    (h : RY d 154 0 [vr 405, vi i1, vi i2, vi i3] [] V D (yback d 24 7 [vr 405, vi i1, vi i2, vi i3, vi i4, vi i5, vr 0, vr 0, vr 0] [] Q)) :
    RY d 24 0 [vr 405, vi i1, vi i2, vi i3, vi i4, vi i5, vr 0, vr 0, vr 0] [] V D Q := yat (c := xk_24) (hd := [240041]) (dk := []) (dv := []) (nb := []) rfl h
set_option maxRecDepth 20000 in
theorem u_24_7 {d : Nat} {i1 i2 i3 i4 i5 : Int} {V : xF} {D : yD} {Q : xRes → xF → yD → Prop}
    (h : ((V 405 0) ≤ 0 → RY d 155 0 [vr 405, vi i1, vi i2, vi i3, vr 0, vr 0, vr 0, vr 0] [] V D (yback d 24 23 [vr 405, vi i1, vi i2, vi i3, vi i4, vi i5, vr 0, vr 0, vr 0] [] Q)) ∧ ((0 : Int) < (V 405 0) → Q (.inl (some (vi 0))) V D)) :
    RY d 24 7 [vr 405, vi i1, vi i2, vi i3, vi i4, vi i5, vr 0, vr 0, vr 0] [] V D Q := yat (c := xk_24) (hd := [240041]) (dk := []) (dv := []) (nb := [240011]) rfl h
set_option maxRecDepth 20000 in
theorem u_24_23 {d : Nat} {i1 i2 i3 i4 i5 i_0 : Int} {V : xF} {D : yD} {Q : xRes → xF → yD → Prop}
    (h : (i4 ≠ ((-1)) → RY d 24 41 [vr 405, vi i1, vi i2, vi i3, vi i4, vi i5, vi i_0, vi i4, vi 0] [] V D Q) ∧ (i4 = ((-1)) → Q (.inl (some (vi i_0))) V D)) :
    RY d 24 23 [vr 405, vi i1, vi i2, vi i3, vi i4, vi i5, vr 0, vr 0, vr 0] [vi i_0] V D Q := yat (c := xk_24) (hd := [240041]) (dk := []) (dv := []) (nb := [240028]) rfl h
set_option maxRecDepth 20000 in
theorem u_24_41 {d : Nat} {i1 i2 i3 i4 i5 i6 i7 i8 : Int} {V : xF} {D : yD} {Q : xRes → xF → yD → Prop}
    (h : ((64 : Int) ≤ i8 → Q (.inl (some (vi ((-1))))) V D) ∧ (i8 < 64 → (((0 : Int) ≤ i8 ∧ i8 < (64 : Int)) ∧ (((V 412 i8.toNat) ≠ 0 → ((i7 ≠ 0 → RY d 24 41 [vr 405, vi i1, vi i2, vi i3, vi i4, vi i5, vi i6, vi (wr (i7 + (-1))), vi (wr (i8 + 1))] [] V D Q) ∧ (i7 = 0 → ((i5 = 0 → Q (.inl (some (vi i8))) V D) ∧ (i5 ≠ 0 → (((0 : Int) ≤ i8 ∧ i8 < (64 : Int)) ∧ Q (.inl (some (vi (V 412 i8.toNat)))) V D)))))) ∧ ((V 412 i8.toNat) = 0 → RY d 24 41 [vr 405, vi i1, vi i2, vi i3, vi i4, vi i5, vi i6, vi i7, vi (wr (i8 + 1))] [] V D Q))))) :
    RY d 24 41 [vr 405, vi i1, vi i2, vi i3, vi i4, vi i5, vi i6, vi i7, vi i8] [] V D Q := yat (c := xk_24) (hd := [240041]) (dk := []) (dv := [240054, 240077]) (nb := [240045, 240055, 240063, 240068]) rfl h
set_option maxRecDepth 20000 in
theorem u_25_0 {d : Nat} {i1 : Int} {V : xF} {D : yD} {Q : xRes → xF → yD → Prop}
    (h : RY d 156 0 [vr 70, vi i1] [] V D (yback d 25 7 [vr 70, vi i1, vr 420, vr 0] [vi 0, vr 420] Q)) :
    RY d 25 0 [vr 70, vi i1, vr 420, vr 0] [] V D Q := yat (c := xk_25) (hd := []) (dk := []) (dv := []) (nb := []) rfl h
set_option maxRecDepth 20000 in
theorem u_25_7 {d : Nat} {i1 i_1 i_2 : Int} {V : xF} {D : yD} {Q : xRes → xF → yD → Prop}
    (h : ((0 : Int) ≤ i_1 ∧ i_1 < (1 : Int)) ∧ (∀ D1 : yD, D1 = (up2 D.1 420 i_1.toNat i_2, D.2) → Q (.inl (some (vi 0))) V D1)) :
    RY d 25 7 [vr 70, vi i1, vr 420, vr 0] [vi i_2, vi i_1, vr 420] V D Q := yat (c := xk_25) (hd := []) (dk := []) (dv := [250008]) (nb := []) rfl h
set_option maxRecDepth 20000 in
theorem u_25_12 {d : Nat} {i1 : Int} {V : xF} {D : yD} {Q : xRes → xF → yD → Prop}
    (h : Q (.inl (some (vi 1))) V D) :
    RY d 25 12 [vr 70, vi i1, vr 420, vr 0] [vr 0] V D Q := yat (c := xk_25) (hd := []) (dk := []) (dv := []) (nb := []) rfl h
set_option maxRecDepth 20000 in
theorem u_26_0 {d : Nat} {i1 : Int} {V : xF} {D : yD} {Q : xRes → xF → yD → Prop}
    (h : ((yr_124 i1 1 60 V D) ≠ 0 → ∀ V1 : xF, V1 = up2 V 405 0 0 → (((V1 405 0) ≤ 0 → RY d 157 0 [vr 405, vr 0] [] V1 D (yback d 26 32 [vr 405, vi i1] [] Q)) ∧ ((0 : Int) < (V1 405 0) → Q (.inl (some (vi 0))) V1 D))) ∧ ((yr_124 i1 1 60 V D) = 0 → ∀ V2 : xF, V2 = up2 V 405 0 1 → (((V2 405 0) ≤ 0 → RY d 157 0 [vr 405, vr 0] [] V2 D (yback d 26 32 [vr 405, vi i1] [] Q)) ∧ ((0 : Int) < (V2 405 0) → Q (.inl (some (vi 0))) V2 D)))) :
    RY d 26 0 [vr 405, vi i1] [] V D Q := yat (c := xk_26) (hd := []) (dk := []) (dv := []) (nb := [260008, 260023]) rfl h
set_option maxRecDepth 20000 in
theorem u_26_32 {d : Nat} {i1 : Int} {V : xF} {D : yD} {Q : xRes → xF → yD → Prop}
    (h : RY d 158 0 [vr 405, vi i1, vi 1, vr 0] [] V D (yback d 26 38 [vr 405, vi i1] [] Q)) :
    RY d 26 32 [vr 405, vi i1] [] V D Q := yat (c := xk_26) (hd := []) (dk := []) (dv := []) (nb := []) rfl h
set_option maxRecDepth 20000 in
theorem u_26_38 {d : Nat} {i1 : Int} {V : xF} {D : yD} {Q : xRes → xF → yD → Prop}
    (h : RY d 159 0 [vr 405, vr 0, vr 0] [] V D (yback d 26 42 [vr 405, vi i1] [] Q)) :
    RY d 26 38 [vr 405, vi i1] [] V D Q := yat (c := xk_26) (hd := []) (dk := []) (dv := []) (nb := []) rfl h
set_option maxRecDepth 20000 in
theorem u_26_42 {d : Nat} {i1 i_0 : Int} {V : xF} {D : yD} {Q : xRes → xF → yD → Prop}
    (h : RY d 160 0 [vi i_0, vr 0, vr 0] [] V D (yback d 26 45 [vr 405, vi i1] [] Q)) :
    RY d 26 42 [vr 405, vi i1] [vi i_0] V D Q := yat (c := xk_26) (hd := []) (dk := []) (dv := []) (nb := []) rfl h
set_option maxRecDepth 20000 in
theorem u_26_45 {d : Nat} {i1 i_0 : Int} {V : xF} {D : yD} {Q : xRes → xF → yD → Prop}
    (h : Q (.inl (some (vi i_0))) V D) :
    RY d 26 45 [vr 405, vi i1] [vi i_0] V D Q := yat (c := xk_26) (hd := []) (dk := []) (dv := []) (nb := []) rfl h
set_option maxRecDepth 20000 in
theorem u_27_0 {d : Nat} {i1 : Int} {V : xF} {D : yD} {Q : xRes → xF → yD → Prop}
    (h : RY d 161 0 [vr 70, vi i1, vr 0] [] V D (yback d 27 7 [vr 70, vi i1, vr 420, vr 0] [vi 0, vr 420] Q)) :
    RY d 27 0 [vr 70, vi i1, vr 420, vr 0] [] V D Q := yat (c := xk_27) (hd := []) (dk := []) (dv := []) (nb := []) rfl h
set_option maxRecDepth 20000 in
theorem u_27_7 {d : Nat} {i1 i_1 i_2 : Int} {V : xF} {D : yD} {Q : xRes → xF → yD → Prop}
    (h : ((0 : Int) ≤ i_1 ∧ i_1 < (1 : Int)) ∧ (∀ D1 : yD, D1 = (up2 D.1 420 i_1.toNat i_2, D.2) → Q (.inl (some (vi 0))) V D1)) :
    RY d 27 7 [vr 70, vi i1, vr 420, vr 0] [vi i_2, vi i_1, vr 420] V D Q := yat (c := xk_27) (hd := []) (dk := []) (dv := [270008]) (nb := []) rfl h
set_option maxRecDepth 20000 in
theorem u_27_12 {d : Nat} {i1 : Int} {V : xF} {D : yD} {Q : xRes → xF → yD → Prop}
    (h : Q (.inl (some (vi 1))) V D) :
    RY d 27 12 [vr 70, vi i1, vr 420, vr 0] [vr 0] V D Q := yat (c := xk_27) (hd := []) (dk := []) (dv := []) (nb := []) rfl h
set_option maxRecDepth 20000 in
theorem u_27_15 {d : Nat} {i1 : Int} {V : xF} {D : yD} {Q : xRes → xF → yD → Prop}
    (h : Q (.inl (some (vi 2))) V D) :
    RY d 27 15 [vr 70, vi i1, vr 420, vr 0] [vr 0] V D Q := yat (c := xk_27) (hd := []) (dk := []) (dv := []) (nb := []) rfl h
set_option maxRecDepth 20000 in
theorem u_28_0 {d : Nat} {i1 : Int} {V : xF} {D : yD} {Q : xRes → xF → yD → Prop}
    (h : ((yr_124 i1 0 3 V D) ≠ 0 → ∀ V1 : xF, V1 = up2 V 405 0 0 → RY d 28 18 [vr 405, vi i1, vr 0] [] V1 D Q) ∧ ((yr_124 i1 0 3 V D) = 0 → ∀ V2 : xF, V2 = up2 V 405 0 1 → RY d 28 18 [vr 405, vi i1, vr 0] [] V2 D Q)) :
    RY d 28 0 [vr 405, vi i1, vr 0] [] V D Q := yat (c := xk_28) (hd := [280018, 280083]) (dk := []) (dv := []) (nb := [280007]) rfl h
set_option maxRecDepth 20000 in
theorem u_28_18 {d : Nat} {i1 : Int} {V : xF} {D : yD} {Q : xRes → xF → yD → Prop}
    (h : ((V 405 0) ≤ 0 → (((V 406 5) = ((-1)) → ∀ V1 : xF, V1 = up2 V 405 0 2 → RY d 28 83 [vr 405, vi i1, vr 0] [] V1 D Q) ∧ ((V 406 5) ≠ ((-1)) → (yg_164 (V 406 5) (wr ((V 406 6) + (yr_162 i1 V D))) (wr ((V 406 7) + (yr_163 i1 V D))) V D ∧ (((yr_164 (V 406 5) (wr ((V 406 6) + (yr_162 i1 V D))) (wr ((V 406 7) + (yr_163 i1 V D))) V D) ≠ 0 → ∀ V2 : xF, V2 = up2 V 405 0 0 → RY d 28 83 [vr 405, vi i1, vr 0] [] V2 D Q) ∧ ((yr_164 (V 406 5) (wr ((V 406 6) + (yr_162 i1 V D))) (wr ((V 406 7) + (yr_163 i1 V D))) V D) = 0 → ∀ V3 : xF, V3 = up2 V 405 0 2 → RY d 28 83 [vr 405, vi i1, vr 0] [] V3 D Q)))))) ∧ ((0 : Int) < (V 405 0) → Q (.inl (some (vi 0))) V D)) :
    RY d 28 18 [vr 405, vi i1, vr 0] [] V D Q := yat (c := xk_28) (hd := [280018, 280083]) (dk := []) (dv := []) (nb := [280022, 280035, 280072]) rfl h
set_option maxRecDepth 20000 in
theorem u_28_83 {d : Nat} {i1 : Int} {V : xF} {D : yD} {Q : xRes → xF → yD → Prop}
    (h : ((V 405 0) ≤ 0 → RY d 165 0 [vr 405, vi 6, vi (wr ((V 406 6) + (yr_162 i1 V D))), vr 0] [] V D (yback d 28 110 [vr 405, vi i1, vr 0] [] Q)) ∧ ((0 : Int) < (V 405 0) → Q (.inl (some (vi 0))) V D)) :
    RY d 28 83 [vr 405, vi i1, vr 0] [] V D Q := yat (c := xk_28) (hd := [280018, 280083]) (dk := []) (dv := []) (nb := [280087]) rfl h
set_option maxRecDepth 20000 in
theorem u_28_110 {d : Nat} {i1 i_0 : Int} {V : xF} {D : yD} {Q : xRes → xF → yD → Prop}
    (h : ∀ V1 : xF, V1 = up2 V 406 7 (wr ((V 406 7) + (yr_163 i1 V D))) → Q (.inl (some (vi (wr ((wr ((16 : Int) * (V1 406 6))) + (V1 406 7)))))) V1 D) :
    RY d 28 110 [vr 405, vi i1, vr 0] [vi i_0] V D Q := yat (c := xk_28) (hd := [280018, 280083]) (dk := []) (dv := []) (nb := []) rfl h
set_option maxRecDepth 20000 in
theorem u_29_0 {d : Nat} {i1 : Int} {V : xF} {D : yD} {Q : xRes → xF → yD → Prop}
    (h : RY d 166 0 [vr 70, vi i1, vr 0] [] V D (yback d 29 7 [vr 70, vi i1, vr 420, vr 0] [vi 0, vr 420] Q)) :
    RY d 29 0 [vr 70, vi i1, vr 420, vr 0] [] V D Q := yat (c := xk_29) (hd := []) (dk := []) (dv := []) (nb := []) rfl h
set_option maxRecDepth 20000 in
theorem u_29_7 {d : Nat} {i1 i_1 i_2 : Int} {V : xF} {D : yD} {Q : xRes → xF → yD → Prop}
    (h : ((0 : Int) ≤ i_1 ∧ i_1 < (1 : Int)) ∧ (∀ D1 : yD, D1 = (up2 D.1 420 i_1.toNat i_2, D.2) → Q (.inl (some (vi 0))) V D1)) :
    RY d 29 7 [vr 70, vi i1, vr 420, vr 0] [vi i_2, vi i_1, vr 420] V D Q := yat (c := xk_29) (hd := []) (dk := []) (dv := [290008]) (nb := []) rfl h
set_option maxRecDepth 20000 in
theorem u_29_12 {d : Nat} {i1 : Int} {V : xF} {D : yD} {Q : xRes → xF → yD → Prop}
    (h : Q (.inl (some (vi 1))) V D) :
    RY d 29 12 [vr 70, vi i1, vr 420, vr 0] [vr 0] V D Q := yat (c := xk_29) (hd := []) (dk := []) (dv := []) (nb := []) rfl h
set_option maxRecDepth 20000 in
theorem u_30_0 {d : Nat} {i1 : Int} {V : xF} {D : yD} {Q : xRes → xF → yD → Prop}
    (h : yg_132 i1 V D ∧ (((yr_132 i1 V D) ≠ 0 → ∀ V1 : xF, V1 = up2 V 405 0 0 → (((V1 405 0) ≤ 0 → RY d 165 0 [vr 405, vi 5, vi i1, vr 0] [] V1 D (yback d 30 32 [vr 405, vi i1, vr 0] [] Q)) ∧ ((0 : Int) < (V1 405 0) → Q (.inl (some (vi 0))) V1 D))) ∧ ((yr_132 i1 V D) = 0 → ∀ V2 : xF, V2 = up2 V 405 0 1 → (((V2 405 0) ≤ 0 → RY d 165 0 [vr 405, vi 5, vi i1, vr 0] [] V2 D (yback d 30 32 [vr 405, vi i1, vr 0] [] Q)) ∧ ((0 : Int) < (V2 405 0) → Q (.inl (some (vi 0))) V2 D))))) :
    RY d 30 0 [vr 405, vi i1, vr 0] [] V D Q := yat (c := xk_30) (hd := []) (dk := []) (dv := []) (nb := [300006, 300021]) rfl h
set_option maxRecDepth 20000 in
theorem u_30_32 {d : Nat} {i1 i_0 : Int} {V : xF} {D : yD} {Q : xRes → xF → yD → Prop}
    (h : yg_133 i1 0 V D ∧ (∀ V1 : xF, V1 = up2 V 406 6 (wr ((yr_133 i1 0 V D).tdiv 2)) → (yg_133 i1 1 V1 D ∧ (∀ V2 : xF, V2 = up2 V1 406 7 (wr ((yr_133 i1 1 V1 D).tdiv 2)) → Q (.inl (some (vi i_0))) V2 D)))) :
    RY d 30 32 [vr 405, vi i1, vr 0] [vi i_0] V D Q := yat (c := xk_30) (hd := []) (dk := []) (dv := []) (nb := []) rfl h
set_option maxRecDepth 20000 in
theorem u_31_0 {d : Nat} {V : xF} {D : yD} {Q : xRes → xF → yD → Prop}
    (h : RY d 167 0 [vr 70] [] V D (yback d 31 6 [vr 70, vr 420, vr 0] [vi 0, vr 420] Q)) :
    RY d 31 0 [vr 70, vr 420, vr 0] [] V D Q := yat (c := xk_31) (hd := []) (dk := []) (dv := []) (nb := []) rfl h
set_option maxRecDepth 20000 in
theorem u_31_6 {d : Nat} {i_1 i_2 : Int} {V : xF} {D : yD} {Q : xRes → xF → yD → Prop}
    (h : ((0 : Int) ≤ i_1 ∧ i_1 < (1 : Int)) ∧ (∀ D1 : yD, D1 = (up2 D.1 420 i_1.toNat i_2, D.2) → Q (.inl (some (vi 0))) V D1)) :
    RY d 31 6 [vr 70, vr 420, vr 0] [vi i_2, vi i_1, vr 420] V D Q := yat (c := xk_31) (hd := []) (dk := []) (dv := [310007]) (nb := []) rfl h
set_option maxRecDepth 20000 in
theorem u_31_11 {d : Nat} {V : xF} {D : yD} {Q : xRes → xF → yD → Prop}
    (h : Q (.inl (some (vi 1))) V D) :
    RY d 31 11 [vr 70, vr 420, vr 0] [vr 0] V D Q := yat (c := xk_31) (hd := []) (dk := []) (dv := []) (nb := []) rfl h
set_option maxRecDepth 20000 in
theorem u_32_0 {d : Nat} {V : xF} {D : yD} {Q : xRes → xF → yD → Prop}
    (h : ((V 406 5) ≠ ((-1)) → ∀ V1 : xF, V1 = up2 V 405 0 0 → (((V1 405 0) ≤ 0 → RY d 157 0 [vr 405, vr 0] [] V1 D (yback d 32 32 [vr 405, vr 0, vr 0] [] Q)) ∧ ((0 : Int) < (V1 405 0) → Q (.inl (some (vi 0))) V1 D))) ∧ ((V 406 5) = ((-1)) → ∀ V2 : xF, V2 = up2 V 405 0 1 → (((V2 405 0) ≤ 0 → RY d 157 0 [vr 405, vr 0] [] V2 D (yback d 32 32 [vr 405, vr 0, vr 0] [] Q)) ∧ ((0 : Int) < (V2 405 0) → Q (.inl (some (vi 0))) V2 D)))) :
    RY d 32 0 [vr 405, vr 0, vr 0] [] V D Q := yat (c := xk_32) (hd := [320060]) (dk := []) (dv := []) (nb := [320008, 320023]) rfl h
set_option maxRecDepth 20000 in
theorem u_32_32 {d : Nat} {V : xF} {D : yD} {Q : xRes → xF → yD → Prop}
    (h : RY d 155 0 [vr 405, vi (V 406 5), vi (V 406 6), vi (V 406 7), vr 0, vr 0, vr 0, vr 0] [] V D (yback d 32 56 [vr 405, vr 0, vr 0] [] Q)) :
    RY d 32 32 [vr 405, vr 0, vr 0] [] V D Q := yat (c := xk_32) (hd := [320060]) (dk := []) (dv := []) (nb := []) rfl h
set_option maxRecDepth 20000 in
theorem u_32_56 {d : Nat} {i_0 : Int} {V : xF} {D : yD} {Q : xRes → xF → yD → Prop}
    (h : RY d 32 60 [vr 405, vi i_0, vi 63] [] V D Q) :
    RY d 32 56 [vr 405, vr 0, vr 0] [vi i_0] V D Q := yat (c := xk_32) (hd := [320060]) (dk := []) (dv := []) (nb := []) rfl h
set_option maxRecDepth 20000 in
theorem u_32_60 {d : Nat} {i1 i2 : Int} {V : xF} {D : yD} {Q : xRes → xF → yD → Prop}
    (h : (i2 < 0 → ∀ V1 : xF, V1 = up2 V 406 13 (yr_169 9999 (wr ((V 406 13) + 1)) V D) → Q (.inl (some (vi i1))) V1 D) ∧ ((0 : Int) ≤ i2 → (((0 : Int) ≤ i2 ∧ i2 < (64 : Int)) ∧ (((V 412 i2.toNat) ≤ 0 → RY d 32 60 [vr 405, vi i1, vi (wr (i2 + (-1)))] [] V D Q) ∧ ((0 : Int) < (V 412 i2.toNat) → (((0 : Int) ≤ i2 ∧ i2 < (64 : Int)) ∧ RY d 168 0 [vr 405, vi i2, vi (V 412 i2.toNat), vr 0] [] V D (yback d 32 84 [vr 405, vi i1, vi i2] [] Q))))))) :
    RY d 32 60 [vr 405, vi i1, vi i2] [] V D Q := yat (c := xk_32) (hd := [320060]) (dk := []) (dv := [320069, 320080]) (nb := [320061, 320070]) rfl h
set_option maxRecDepth 20000 in
theorem u_32_84 {d : Nat} {i1 i2 : Int} {V : xF} {D : yD} {Q : xRes → xF → yD → Prop}
    (h : RY d 32 60 [vr 405, vi i1, vi (wr (i2 + (-1)))] [] V D Q) :
    RY d 32 84 [vr 405, vi i1, vi i2] [] V D Q := yat (c := xk_32) (hd := [320060]) (dk := []) (dv := []) (nb := []) rfl h
set_option maxRecDepth 20000 in
theorem u_33_0 {d : Nat} {i1 i2 i3 : Int} {V : xF} {D : yD} {Q : xRes → xF → yD → Prop}
    (h : RY d 170 0 [vr 70, vi i1, vi i2, vi i3, vr 0] [] V D (yback d 33 10 [vr 70, vi i1, vi i2, vi i3, vr 420, vr 0] [vi 0, vr 420] Q)) :
    RY d 33 0 [vr 70, vi i1, vi i2, vi i3, vr 420, vr 0] [] V D Q := yat (c := xk_33) (hd := []) (dk := []) (dv := []) (nb := []) rfl h
set_option maxRecDepth 20000 in
theorem u_33_10 {d : Nat} {i1 i2 i3 i_1 i_2 : Int} {V : xF} {D : yD} {Q : xRes → xF → yD → Prop}
    (h : ((0 : Int) ≤ i_1 ∧ i_1 < (1 : Int)) ∧ (∀ D1 : yD, D1 = (up2 D.1 420 i_1.toNat i_2, D.2) → Q (.inl (some (vi 0))) V D1)) :
    RY d 33 10 [vr 70, vi i1, vi i2, vi i3, vr 420, vr 0] [vi i_2, vi i_1, vr 420] V D Q := yat (c := xk_33) (hd := []) (dk := []) (dv := [330011]) (nb := []) rfl h
set_option maxRecDepth 20000 in
theorem u_33_15 {d : Nat} {i1 i2 i3 : Int} {V : xF} {D : yD} {Q : xRes → xF → yD → Prop}
    (h : Q (.inl (some (vi 1))) V D) :
    RY d 33 15 [vr 70, vi i1, vi i2, vi i3, vr 420, vr 0] [vr 0] V D Q := yat (c := xk_33) (hd := []) (dk := []) (dv := []) (nb := []) rfl h
set_option maxRecDepth 20000 in
theorem u_34_0 {d : Nat} {i1 i2 i3 : Int} {V : xF} {D : yD} {Q : xRes → xF → yD → Prop}
    (h : yg_132 i1 V D ∧ (((yr_132 i1 V D) = 0 → ∀ V1 : xF, V1 = up2 V 405 0 1 → (((V1 405 0) ≤ 0 → RY d 165 0 [vr 405, vi (wr ((wr ((wr ((16 : Int) + (wr ((7 : Int) * i1)))) + 2)) + i2)), vi i3, vr 0] [] V1 D (yback d 34 62 [vr 405, vi i1, vi i2, vi i3] [] Q)) ∧ ((0 : Int) < (V1 405 0) → Q (.inl (some (vi 0))) V1 D))) ∧ ((yr_132 i1 V D) ≠ 0 → (((yr_124 i2 0 3 V D) = 0 → ∀ V2 : xF, V2 = up2 V 405 0 1 → (((V2 405 0) ≤ 0 → RY d 165 0 [vr 405, vi (wr ((wr ((wr ((16 : Int) + (wr ((7 : Int) * i1)))) + 2)) + i2)), vi i3, vr 0] [] V2 D (yback d 34 62 [vr 405, vi i1, vi i2, vi i3] [] Q)) ∧ ((0 : Int) < (V2 405 0) → Q (.inl (some (vi 0))) V2 D))) ∧ ((yr_124 i2 0 3 V D) ≠ 0 → (((yr_124 i3 0 4 V D) ≠ 0 → ∀ V3 : xF, V3 = up2 V 405 0 0 → (((V3 405 0) ≤ 0 → RY d 165 0 [vr 405, vi (wr ((wr ((wr ((16 : Int) + (wr ((7 : Int) * i1)))) + 2)) + i2)), vi i3, vr 0] [] V3 D (yback d 34 62 [vr 405, vi i1, vi i2, vi i3] [] Q)) ∧ ((0 : Int) < (V3 405 0) → Q (.inl (some (vi 0))) V3 D))) ∧ ((yr_124 i3 0 4 V D) = 0 → ∀ V4 : xF, V4 = up2 V 405 0 1 → (((V4 405 0) ≤ 0 → RY d 165 0 [vr 405, vi (wr ((wr ((wr ((16 : Int) + (wr ((7 : Int) * i1)))) + 2)) + i2)), vi i3, vr 0] [] V4 D (yback d 34 62 [vr 405, vi i1, vi i2, vi i3] [] Q)) ∧ ((0 : Int) < (V4 405 0) → Q (.inl (some (vi 0))) V4 D))))))))) :
    RY d 34 0 [vr 405, vi i1, vi i2, vi i3] [] V D Q := yat (c := xk_34) (hd := []) (dk := []) (dv := []) (nb := [340006, 340015, 340024, 340039]) rfl h
set_option maxRecDepth 20000 in
theorem u_34_62 {d : Nat} {i1 i2 i3 i_0 : Int} {V : xF} {D : yD} {Q : xRes → xF → yD → Prop}
    (h : Q (.inl (some (vi i_0))) V D) :
    RY d 34 62 [vr 405, vi i1, vi i2, vi i3] [vi i_0] V D Q := yat (c := xk_34) (hd := []) (dk := []) (dv := []) (nb := []) rfl h
set_option maxRecDepth 20000 in
theorem u_35_0 {d : Nat} {i1 i2 i3 : Int} {V : xF} {D : yD} {Q : xRes → xF → yD → Prop}
    (h : RY d 171 0 [vr 70, vi i1, vi i2, vi i3, vr 0] [] V D (yback d 35 10 [vr 70, vi i1, vi i2, vi i3, vr 420, vr 0] [vi 0, vr 420] Q)) :
    RY d 35 0 [vr 70, vi i1, vi i2, vi i3, vr 420, vr 0] [] V D Q := yat (c := xk_35) (hd := []) (dk := []) (dv := []) (nb := []) rfl h
set_option maxRecDepth 20000 in
theorem u_35_10 {d : Nat} {i1 i2 i3 i_1 i_2 : Int} {V : xF} {D : yD} {Q : xRes → xF → yD → Prop}
    (h : (i_2 = 0 → (((0 : Int) ≤ i_1 ∧ i_1 < (1 : Int)) ∧ (∀ D1 : yD, D1 = (up2 D.1 420 i_1.toNat 0, D.2) → Q (.inl (some (vi 0))) V D1))) ∧ (i_2 ≠ 0 → (((0 : Int) ≤ i_1 ∧ i_1 < (1 : Int)) ∧ (∀ D2 : yD, D2 = (up2 D.1 420 i_1.toNat 1, D.2) → Q (.inl (some (vi 0))) V D2)))) :
    RY d 35 10 [vr 70, vi i1, vi i2, vi i3, vr 420, vr 0] [vi i_2, vi i_1, vr 420] V D Q := yat (c := xk_35) (hd := []) (dk := []) (dv := [350018]) (nb := [350010]) rfl h
set_option maxRecDepth 20000 in
theorem u_35_22 {d : Nat} {i1 i2 i3 : Int} {V : xF} {D : yD} {Q : xRes → xF → yD → Prop}
    (h : Q (.inl (some (vi 1))) V D) :
    RY d 35 22 [vr 70, vi i1, vi i2, vi i3, vr 420, vr 0] [vr 0] V D Q := yat (c := xk_35) (hd := []) (dk := []) (dv := []) (nb := []) rfl h
set_option maxRecDepth 20000 in
theorem u_35_26 {d : Nat} {i1 i2 i3 : Int} {V : xF} {D : yD} {Q : xRes → xF → yD → Prop}
    (h : Q (.inl (some (vi 2))) V D) :
    RY d 35 26 [vr 70, vi i1, vi i2, vi i3, vr 420, vr 0] [vr 0] V D Q := yat (c := xk_35) (hd := []) (dk := []) (dv := []) (nb := []) rfl h
set_option maxRecDepth 20000 in
theorem u_36_0 {d : Nat} {i1 i2 i3 : Int} {V : xF} {D : yD} {Q : xRes → xF → yD → Prop}
    (h : RY d 151 0 [vr 405, vi i1, vi i2] [] V D (yback d 36 6 [vr 405, vi i1, vi i2, vi i3, vr 0] [] Q)) :
    RY d 36 0 [vr 405, vi i1, vi i2, vi i3, vr 0] [] V D Q := yat (c := xk_36) (hd := []) (dk := []) (dv := []) (nb := []) rfl h
set_option maxRecDepth 20000 in
theorem u_36_6 {d : Nat} {i1 i2 i3 : Int} {V : xF} {D : yD} {Q : xRes → xF → yD → Prop}
    (h : ((V 405 0) ≤ 0 → RY d 157 0 [vr 405, vr 0] [] V D (yback d 36 19 [vr 405, vi i1, vi i2, vi i3, vr 0] [] Q)) ∧ ((0 : Int) < (V 405 0) → Q (.inl (some (vi 0))) V D)) :
    RY d 36 6 [vr 405, vi i1, vi i2, vi i3, vr 0] [] V D Q := yat (c := xk_36) (hd := []) (dk := []) (dv := []) (nb := [360010]) rfl h
set_option maxRecDepth 20000 in
theorem u_36_19 {d : Nat} {i1 i2 i3 : Int} {V : xF} {D : yD} {Q : xRes → xF → yD → Prop}
    (h : yg_152 i1 i2 V D ∧ ((i3 = 0 → (((0 : Int) ≤ wr ((wr ((66 : Int) + (wr ((5 : Int) * i1)))) + i2) ∧ wr ((wr ((66 : Int) + (wr ((5 : Int) * i1)))) + i2) < (731 : Int)) ∧ (∀ V1 : xF, V1 = up2 V 406 ((wr ((wr ((66 : Int) + (wr ((5 : Int) * i1)))) + i2)).toNat) 0 → (((0 : Int) ≤ wr ((wr ((66 : Int) + (wr ((5 : Int) * i2)))) + i1) ∧ wr ((wr ((66 : Int) + (wr ((5 : Int) * i2)))) + i1) < (731 : Int)) ∧ (∀ V2 : xF, V2 = up2 V1 406 ((wr ((wr ((66 : Int) + (wr ((5 : Int) * i2)))) + i1)).toNat) 0 → (((yr_152 i1 i2 V D) = i3 → Q (.inl (some (vi 0))) V2 D) ∧ ((yr_152 i1 i2 V D) ≠ i3 → Q (.inl (some (vi 1))) V2 D))))))) ∧ (i3 ≠ 0 → (((0 : Int) ≤ wr ((wr ((66 : Int) + (wr ((5 : Int) * i1)))) + i2) ∧ wr ((wr ((66 : Int) + (wr ((5 : Int) * i1)))) + i2) < (731 : Int)) ∧ (∀ V3 : xF, V3 = up2 V 406 ((wr ((wr ((66 : Int) + (wr ((5 : Int) * i1)))) + i2)).toNat) 1 → (((0 : Int) ≤ wr ((wr ((66 : Int) + (wr ((5 : Int) * i2)))) + i1) ∧ wr ((wr ((66 : Int) + (wr ((5 : Int) * i2)))) + i1) < (731 : Int)) ∧ (∀ V4 : xF, V4 = up2 V3 406 ((wr ((wr ((66 : Int) + (wr ((5 : Int) * i2)))) + i1)).toNat) 1 → (((yr_152 i1 i2 V D) = i3 → Q (.inl (some (vi 0))) V4 D) ∧ ((yr_152 i1 i2 V D) ≠ i3 → Q (.inl (some (vi 1))) V4 D))))))))) :
    RY d 36 19 [vr 405, vi i1, vi i2, vi i3, vr 0] [] V D Q := yat (c := xk_36) (hd := []) (dk := []) (dv := [1720013, 1720027]) (nb := [360031, 360045]) rfl h
set_option maxRecDepth 20000 in
theorem u_37_0 {d : Nat} {i1 i2 : Int} {V : xF} {D : yD} {Q : xRes → xF → yD → Prop}
    (h : RY d 173 0 [vr 70, vi i1, vi i2, vr 0] [] V D (yback d 37 8 [vr 70, vi i1, vi i2, vr 420, vr 0] [vi 0, vr 420] Q)) :
    RY d 37 0 [vr 70, vi i1, vi i2, vr 420, vr 0] [] V D Q := yat (c := xk_37) (hd := []) (dk := []) (dv := []) (nb := []) rfl h
set_option maxRecDepth 20000 in
theorem u_37_8 {d : Nat} {i1 i2 i_1 i_2 : Int} {V : xF} {D : yD} {Q : xRes → xF → yD → Prop}
    (h : ((0 : Int) ≤ i_1 ∧ i_1 < (1 : Int)) ∧ (∀ D1 : yD, D1 = (up2 D.1 420 i_1.toNat i_2, D.2) → Q (.inl (some (vi 0))) V D1)) :
    RY d 37 8 [vr 70, vi i1, vi i2, vr 420, vr 0] [vi i_2, vi i_1, vr 420] V D Q := yat (c := xk_37) (hd := []) (dk := []) (dv := [370009]) (nb := []) rfl h
set_option maxRecDepth 20000 in
theorem u_37_13 {d : Nat} {i1 i2 : Int} {V : xF} {D : yD} {Q : xRes → xF → yD → Prop}
    (h : Q (.inl (some (vi 1))) V D) :
    RY d 37 13 [vr 70, vi i1, vi i2, vr 420, vr 0] [vr 0] V D Q := yat (c := xk_37) (hd := []) (dk := []) (dv := []) (nb := []) rfl h
set_option maxRecDepth 20000 in
theorem u_37_17 {d : Nat} {i1 i2 : Int} {V : xF} {D : yD} {Q : xRes → xF → yD → Prop}
    (h : Q (.inl (some (vi 2))) V D) :
    RY d 37 17 [vr 70, vi i1, vi i2, vr 420, vr 0] [vr 0] V D Q := yat (c := xk_37) (hd := []) (dk := []) (dv := []) (nb := []) rfl h
set_option maxRecDepth 20000 in
theorem u_38_0 {d : Nat} {i1 i2 : Int} {V : xF} {D : yD} {Q : xRes → xF → yD → Prop}
    (h : yg_132 i1 V D ∧ (((yr_132 i1 V D) ≠ 0 → (((yr_124 i2 0 99 V D) ≠ 0 → ∀ V1 : xF, V1 = up2 V 405 0 0 → (((V1 405 0) ≤ 0 → RY d 165 0 [vr 405, vi (wr ((wr ((16 : Int) + (wr ((7 : Int) * i1)))) + 6)), vi i2, vr 0] [] V1 D (yback d 38 57 [vr 405, vi i1, vi i2] [] Q)) ∧ ((0 : Int) < (V1 405 0) → Q (.inl (some (vi 0))) V1 D))) ∧ ((yr_124 i2 0 99 V D) = 0 → ∀ V2 : xF, V2 = up2 V 405 0 2 → (((V2 405 0) ≤ 0 → RY d 165 0 [vr 405, vi (wr ((wr ((16 : Int) + (wr ((7 : Int) * i1)))) + 6)), vi i2, vr 0] [] V2 D (yback d 38 57 [vr 405, vi i1, vi i2] [] Q)) ∧ ((0 : Int) < (V2 405 0) → Q (.inl (some (vi 0))) V2 D))))) ∧ ((yr_132 i1 V D) = 0 → ∀ V3 : xF, V3 = up2 V 405 0 1 → (((V3 405 0) ≤ 0 → RY d 165 0 [vr 405, vi (wr ((wr ((16 : Int) + (wr ((7 : Int) * i1)))) + 6)), vi i2, vr 0] [] V3 D (yback d 38 57 [vr 405, vi i1, vi i2] [] Q)) ∧ ((0 : Int) < (V3 405 0) → Q (.inl (some (vi 0))) V3 D))))) :
    RY d 38 0 [vr 405, vi i1, vi i2] [] V D Q := yat (c := xk_38) (hd := []) (dk := []) (dv := []) (nb := [380006, 380020, 380035]) rfl h
set_option maxRecDepth 20000 in
theorem u_38_57 {d : Nat} {i1 i2 i_0 : Int} {V : xF} {D : yD} {Q : xRes → xF → yD → Prop}
    (h : Q (.inl (some (vi i_0))) V D) :
    RY d 38 57 [vr 405, vi i1, vi i2] [vi i_0] V D Q := yat (c := xk_38) (hd := []) (dk := []) (dv := []) (nb := []) rfl h
set_option maxRecDepth 20000 in
theorem u_39_0 {d : Nat} {i1 i2 : Int} {V : xF} {D : yD} {Q : xRes → xF → yD → Prop}
    (h : RY d 174 0 [vr 70, vi i1, vi i2, vr 0] [] V D (yback d 39 8 [vr 70, vi i1, vi i2, vr 420, vr 0] [vi 0, vr 420] Q)) :
    RY d 39 0 [vr 70, vi i1, vi i2, vr 420, vr 0] [] V D Q := yat (c := xk_39) (hd := []) (dk := []) (dv := []) (nb := []) rfl h
set_option maxRecDepth 20000 in
theorem u_39_8 {d : Nat} {i1 i2 i_1 i_2 : Int} {V : xF} {D : yD} {Q : xRes → xF → yD → Prop}
    (h : ((0 : Int) ≤ i_1 ∧ i_1 < (1 : Int)) ∧ (∀ D1 : yD, D1 = (up2 D.1 420 i_1.toNat i_2, D.2) → Q (.inl (some (vi 0))) V D1)) :
    RY d 39 8 [vr 70, vi i1, vi i2, vr 420, vr 0] [vi i_2, vi i_1, vr 420] V D Q := yat (c := xk_39) (hd := []) (dk := []) (dv := [390009]) (nb := []) rfl h
set_option maxRecDepth 20000 in
theorem u_39_13 {d : Nat} {i1 i2 : Int} {V : xF} {D : yD} {Q : xRes → xF → yD → Prop}
    (h : Q (.inl (some (vi 1))) V D) :
    RY d 39 13 [vr 70, vi i1, vi i2, vr 420, vr 0] [vr 0] V D Q := yat (c := xk_39) (hd := []) (dk := []) (dv := []) (nb := []) rfl h
set_option maxRecDepth 20000 in
theorem u_39_17 {d : Nat} {i1 i2 : Int} {V : xF} {D : yD} {Q : xRes → xF → yD → Prop}
    (h : Q (.inl (some (vi 2))) V D) :
    RY d 39 17 [vr 70, vi i1, vi i2, vr 420, vr 0] [vr 0] V D Q := yat (c := xk_39) (hd := []) (dk := []) (dv := []) (nb := []) rfl h
set_option maxRecDepth 20000 in
theorem u_40_0 {d : Nat} {i1 i2 : Int} {V : xF} {D : yD} {Q : xRes → xF → yD → Prop}
    (h : yg_142 i1 V D ∧ (((yr_142 i1 V D) = 0 → ∀ V1 : xF, V1 = up2 V 405 0 1 → RY d 40 30 [vr 405, vi i1, vi i2] [] V1 D Q) ∧ ((yr_142 i1 V D) ≠ 0 → ((i2 = ((-1)) → ∀ V2 : xF, V2 = up2 V 405 0 0 → RY d 40 30 [vr 405, vi i1, vi i2] [] V2 D Q) ∧ (i2 ≠ ((-1)) → (yg_132 i2 V D ∧ (((yr_132 i2 V D) ≠ 0 → ∀ V3 : xF, V3 = up2 V 405 0 0 → RY d 40 30 [vr 405, vi i1, vi i2] [] V3 D Q) ∧ ((yr_132 i2 V D) = 0 → ∀ V4 : xF, V4 = up2 V 405 0 1 → RY d 40 30 [vr 405, vi i1, vi i2] [] V4 D Q)))))))) :
    RY d 40 0 [vr 405, vi i1, vi i2] [] V D Q := yat (c := xk_40) (hd := [400030, 400071]) (dk := []) (dv := []) (nb := [400006, 400011, 400019]) rfl h
set_option maxRecDepth 20000 in
theorem u_40_30 {d : Nat} {i1 i2 : Int} {V : xF} {D : yD} {Q : xRes → xF → yD → Prop}
    (h : ((V 405 0) ≤ 0 → ((i2 = ((-1)) → ∀ V1 : xF, V1 = up2 V 405 0 0 → RY d 40 71 [vr 405, vi i1, vi i2] [] V1 D Q) ∧ (i2 ≠ ((-1)) → RY d 134 0 [vr 405, vi i2, vr 0, vr 0] [] V D (yback d 40 50 [vr 405, vi i1, vi i2] [vr 405] Q)))) ∧ ((0 : Int) < (V 405 0) → Q (.inl (some (vi 0))) V D)) :
    RY d 40 30 [vr 405, vi i1, vi i2] [] V D Q := yat (c := xk_40) (hd := [400030, 400071]) (dk := []) (dv := []) (nb := [400034, 400042]) rfl h
set_option maxRecDepth 20000 in
theorem u_40_50 {d : Nat} {i1 i2 i_1 : Int} {V : xF} {D : yD} {Q : xRes → xF → yD → Prop}
    (h : (i_1 = ((-1)) → ∀ V1 : xF, V1 = up2 V 405 0 0 → RY d 40 71 [vr 405, vi i1, vi i2] [] V1 D Q) ∧ (i_1 ≠ ((-1)) → RY d 134 0 [vr 405, vi i2, vr 0, vr 0] [] V D (yback d 40 59 [vr 405, vi i1, vi i2] [vr 405] Q))) :
    RY d 40 50 [vr 405, vi i1, vi i2] [vi i_1, vr 405] V D Q := yat (c := xk_40) (hd := [400030, 400071]) (dk := []) (dv := []) (nb := [400051]) rfl h
set_option maxRecDepth 20000 in
theorem u_40_59 {d : Nat} {i1 i2 i_1 : Int} {V : xF} {D : yD} {Q : xRes → xF → yD → Prop}
    (h : (i_1 = i1 → ∀ V1 : xF, V1 = up2 V 405 0 0 → RY d 40 71 [vr 405, vi i1, vi i2] [] V1 D Q) ∧ (i_1 ≠ i1 → ∀ V2 : xF, V2 = up2 V 405 0 2 → RY d 40 71 [vr 405, vi i1, vi i2] [] V2 D Q)) :
    RY d 40 59 [vr 405, vi i1, vi i2] [vi i_1, vr 405] V D Q := yat (c := xk_40) (hd := [400030, 400071]) (dk := []) (dv := []) (nb := [400060]) rfl h
set_option maxRecDepth 20000 in
theorem u_40_71 {d : Nat} {i1 i2 : Int} {V : xF} {D : yD} {Q : xRes → xF → yD → Prop}
    (h : ((V 405 0) ≤ 0 → RY d 165 0 [vr 405, vi (wr ((wr ((51 : Int) + (wr ((3 : Int) * i1)))) + 2)), vi i2, vr 0] [] V D (yback d 40 95 [vr 405, vi i1, vi i2] [] Q)) ∧ ((0 : Int) < (V 405 0) → Q (.inl (some (vi 0))) V D)) :
    RY d 40 71 [vr 405, vi i1, vi i2] [] V D Q := yat (c := xk_40) (hd := [400030, 400071]) (dk := []) (dv := []) (nb := [400075]) rfl h
set_option maxRecDepth 20000 in
theorem u_40_95 {d : Nat} {i1 i2 i_0 : Int} {V : xF} {D : yD} {Q : xRes → xF → yD → Prop}
    (h : Q (.inl (some (vi i_0))) V D) :
    RY d 40 95 [vr 405, vi i1, vi i2] [vi i_0] V D Q := yat (c := xk_40) (hd := [400030, 400071]) (dk := []) (dv := []) (nb := []) rfl h
set_option maxRecDepth 20000 in
theorem u_41_0 {d : Nat} {i1 i2 i3 : Int} {V : xF} {D : yD} {Q : xRes → xF → yD → Prop}
    (h : RY d 175 0 [vr 70, vi i1, vi i2, vi i3] [] V D (yback d 41 10 [vr 70, vi i1, vi i2, vi i3, vr 420, vr 0] [vi 0, vr 420] Q)) :
    RY d 41 0 [vr 70, vi i1, vi i2, vi i3, vr 420, vr 0] [] V D Q := yat (c := xk_41) (hd := []) (dk := []) (dv := []) (nb := []) rfl h
set_option maxRecDepth 20000 in
theorem u_41_10 {d : Nat} {i1 i2 i3 i_1 i_2 : Int} {V : xF} {D : yD} {Q : xRes → xF → yD → Prop}
    (h : ((0 : Int) ≤ i_1 ∧ i_1 < (1 : Int)) ∧ (∀ D1 : yD, D1 = (up2 D.1 420 i_1.toNat i_2, D.2) → Q (.inl (some (vi 0))) V D1)) :
    RY d 41 10 [vr 70, vi i1, vi i2, vi i3, vr 420, vr 0] [vi i_2, vi i_1, vr 420] V D Q := yat (c := xk_41) (hd := []) (dk := []) (dv := [410011]) (nb := []) rfl h
set_option maxRecDepth 20000 in
theorem u_41_15 {d : Nat} {i1 i2 i3 : Int} {V : xF} {D : yD} {Q : xRes → xF → yD → Prop}
    (h : Q (.inl (some (vi 1))) V D) :
    RY d 41 15 [vr 70, vi i1, vi i2, vi i3, vr 420, vr 0] [vr 0] V D Q := yat (c := xk_41) (hd := []) (dk := []) (dv := []) (nb := []) rfl h
set_option maxRecDepth 20000 in
theorem u_42_0 {d : Nat} {i1 i2 i3 : Int} {V : xF} {D : yD} {Q : xRes → xF → yD → Prop}
    (h : RY d 154 0 [vr 405, vi i1, vi i2, vi i3] [] V D (yback d 42 7 [vr 405, vi i1, vi i2, vi i3, vr 0, vr 0] [] Q)) :
    RY d 42 0 [vr 405, vi i1, vi i2, vi i3, vr 0, vr 0] [] V D Q := yat (c := xk_42) (hd := [420028]) (dk := []) (dv := []) (nb := []) rfl h
set_option maxRecDepth 20000 in
theorem u_42_7 {d : Nat} {i1 i2 i3 : Int} {V : xF} {D : yD} {Q : xRes → xF → yD → Prop}
    (h : ((V 405 0) ≤ 0 → RY d 155 0 [vr 405, vi i1, vi i2, vi i3, vr 0, vr 0, vr 0, vr 0] [] V D (yback d 42 23 [vr 405, vi i1, vi i2, vi i3, vr 0, vr 0] [] Q)) ∧ ((0 : Int) < (V 405 0) → Q (.inl (some (vi 0))) V D)) :
    RY d 42 7 [vr 405, vi i1, vi i2, vi i3, vr 0, vr 0] [] V D Q := yat (c := xk_42) (hd := [420028]) (dk := []) (dv := []) (nb := [420011]) rfl h
set_option maxRecDepth 20000 in
theorem u_42_23 {d : Nat} {i1 i2 i3 i_0 : Int} {V : xF} {D : yD} {Q : xRes → xF → yD → Prop}
    (h : RY d 42 28 [vr 405, vi i1, vi i2, vi i3, vi i_0, vi 0] [] V D Q) :
    RY d 42 23 [vr 405, vi i1, vi i2, vi i3, vr 0, vr 0] [vi i_0] V D Q := yat (c := xk_42) (hd := [420028]) (dk := []) (dv := []) (nb := []) rfl h
set_option maxRecDepth 20000 in
theorem u_42_28 {d : Nat} {i1 i2 i3 i4 i5 : Int} {V : xF} {D : yD} {Q : xRes → xF → yD → Prop}
    (h : ((64 : Int) ≤ i5 → Q (.inl (some (vi ((-1))))) V D) ∧ (i5 < 64 → (((0 : Int) ≤ i5 ∧ i5 < (64 : Int)) ∧ (((V 412 i5.toNat) ≤ 0 → RY d 42 28 [vr 405, vi i1, vi i2, vi i3, vi i4, vi (wr (i5 + 1))] [] V D Q) ∧ ((0 : Int) < (V 412 i5.toNat) → Q (.inl (some (vi i5))) V D))))) :
    RY d 42 28 [vr 405, vi i1, vi i2, vi i3, vi i4, vi i5] [] V D Q := yat (c := xk_42) (hd := [420028]) (dk := []) (dv := [420041]) (nb := [420032, 420042]) rfl h
set_option maxRecDepth 20000 in
theorem u_43_0 {d : Nat} {i1 i2 i3 : Int} {V : xF} {D : yD} {Q : xRes → xF → yD → Prop}
    (h : RY d 176 0 [vr 70, vi i1, vi i2, vi i3] [] V D (yback d 43 10 [vr 70, vi i1, vi i2, vi i3, vr 420, vr 0] [vi 0, vr 420] Q)) :
    RY d 43 0 [vr 70, vi i1, vi i2, vi i3, vr 420, vr 0] [] V D Q := yat (c := xk_43) (hd := []) (dk := []) (dv := []) (nb := []) rfl h
set_option maxRecDepth 20000 in
theorem u_43_10 {d : Nat} {i1 i2 i3 i_1 i_2 : Int} {V : xF} {D : yD} {Q : xRes → xF → yD → Prop}
    (h : ((0 : Int) ≤ i_1 ∧ i_1 < (1 : Int)) ∧ (∀ D1 : yD, D1 = (up2 D.1 420 i_1.toNat i_2, D.2) → Q (.inl (some (vi 0))) V D1)) :
    RY d 43 10 [vr 70, vi i1, vi i2, vi i3, vr 420, vr 0] [vi i_2, vi i_1, vr 420] V D Q := yat (c := xk_43) (hd := []) (dk := []) (dv := [430011]) (nb := []) rfl h
set_option maxRecDepth 20000 in
theorem u_43_15 {d : Nat} {i1 i2 i3 : Int} {V : xF} {D : yD} {Q : xRes → xF → yD → Prop}
    (h : Q (.inl (some (vi 1))) V D) :
    RY d 43 15 [vr 70, vi i1, vi i2, vi i3, vr 420, vr 0] [vr 0] V D Q := yat (c := xk_43) (hd := []) (dk := []) (dv := []) (nb := []) rfl h
set_option maxRecDepth 20000 in
theorem u_44_0 {d : Nat} {i1 i2 i3 : Int} {V : xF} {D : yD} {Q : xRes → xF → yD → Prop}
    (h : RY d 154 0 [vr 405, vi i1, vi i2, vi i3] [] V D (yback d 44 7 [vr 405, vi i1, vi i2, vi i3, vr 0, vr 0] [] Q)) :
    RY d 44 0 [vr 405, vi i1, vi i2, vi i3, vr 0, vr 0] [] V D Q := yat (c := xk_44) (hd := [440029]) (dk := []) (dv := []) (nb := []) rfl h
set_option maxRecDepth 20000 in
theorem u_44_7 {d : Nat} {i1 i2 i3 : Int} {V : xF} {D : yD} {Q : xRes → xF → yD → Prop}
    (h : ((V 405 0) ≤ 0 → RY d 155 0 [vr 405, vi i1, vi i2, vi i3, vr 0, vr 0, vr 0, vr 0] [] V D (yback d 44 23 [vr 405, vi i1, vi i2, vi i3, vr 0, vr 0] [] Q)) ∧ ((0 : Int) < (V 405 0) → Q (.inl (some (vi 0))) V D)) :
    RY d 44 7 [vr 405, vi i1, vi i2, vi i3, vr 0, vr 0] [] V D Q := yat (c := xk_44) (hd := [440029]) (dk := []) (dv := []) (nb := [440011]) rfl h
set_option maxRecDepth 20000 in
theorem u_44_23 {d : Nat} {i1 i2 i3 i_0 : Int} {V : xF} {D : yD} {Q : xRes → xF → yD → Prop}
    (h : RY d 44 29 [vr 405, vi i1, vi i2, vi i3, vi i_0, vi 63] [] V D Q) :
    RY d 44 23 [vr 405, vi i1, vi i2, vi i3, vr 0, vr 0] [vi i_0] V D Q := yat (c := xk_44) (hd := [440029]) (dk := []) (dv := []) (nb := []) rfl h
set_option maxRecDepth 20000 in
theorem u_44_29 {d : Nat} {i1 i2 i3 i4 i5 : Int} {V : xF} {D : yD} {Q : xRes → xF → yD → Prop}
    (h : (i5 < 0 → Q (.inl (some (vi ((-1))))) V D) ∧ ((0 : Int) ≤ i5 → (((0 : Int) ≤ i5 ∧ i5 < (64 : Int)) ∧ (((V 412 i5.toNat) ≤ 0 → RY d 44 29 [vr 405, vi i1, vi i2, vi i3, vi i4, vi (wr (i5 + (-1)))] [] V D Q) ∧ ((0 : Int) < (V 412 i5.toNat) → Q (.inl (some (vi i5))) V D))))) :
    RY d 44 29 [vr 405, vi i1, vi i2, vi i3, vi i4, vi i5] [] V D Q := yat (c := xk_44) (hd := [440029]) (dk := []) (dv := [440040]) (nb := [440031, 440041]) rfl h
set_option maxRecDepth 20000 in
theorem u_45_0 {d : Nat} {i1 i2 i3 : Int} {V : xF} {D : yD} {Q : xRes → xF → yD → Prop}
    (h : RY d 177 0 [vr 70, vi i1, vi i2, vi i3] [] V D (yback d 45 10 [vr 70, vi i1, vi i2, vi i3, vr 420, vr 0] [vi 0, vr 420] Q)) :
    RY d 45 0 [vr 70, vi i1, vi i2, vi i3, vr 420, vr 0] [] V D Q := yat (c := xk_45) (hd := []) (dk := []) (dv := []) (nb := []) rfl h
set_option maxRecDepth 20000 in
theorem u_45_10 {d : Nat} {i1 i2 i3 i_1 i_2 : Int} {V : xF} {D : yD} {Q : xRes → xF → yD → Prop}
    (h : ((0 : Int) ≤ i_1 ∧ i_1 < (1 : Int)) ∧ (∀ D1 : yD, D1 = (up2 D.1 420 i_1.toNat i_2, D.2) → Q (.inl (some (vi 0))) V D1)) :
    RY d 45 10 [vr 70, vi i1, vi i2, vi i3, vr 420, vr 0] [vi i_2, vi i_1, vr 420] V D Q := yat (c := xk_45) (hd := []) (dk := []) (dv := [450011]) (nb := []) rfl h
set_option maxRecDepth 20000 in
theorem u_45_15 {d : Nat} {i1 i2 i3 : Int} {V : xF} {D : yD} {Q : xRes → xF → yD → Prop}
    (h : Q (.inl (some (vi 1))) V D) :
    RY d 45 15 [vr 70, vi i1, vi i2, vi i3, vr 420, vr 0] [vr 0] V D Q := yat (c := xk_45) (hd := []) (dk := []) (dv := []) (nb := []) rfl h
set_option maxRecDepth 20000 in
theorem u_46_0 {d : Nat} {i1 i2 i3 : Int} {V : xF} {D : yD} {Q : xRes → xF → yD → Prop}
    (h : RY d 154 0 [vr 405, vi i1, vi i2, vi i3] [] V D (yback d 46 7 [vr 405, vi i1, vi i2, vi i3, vr 0] [] Q)) :
    RY d 46 0 [vr 405, vi i1, vi i2, vi i3, vr 0] [] V D Q := yat (c := xk_46) (hd := []) (dk := []) (dv := []) (nb := []) rfl h
set_option maxRecDepth 20000 in
theorem u_46_7 {d : Nat} {i1 i2 i3 : Int} {V : xF} {D : yD} {Q : xRes → xF → yD → Prop}
    (h : ((V 405 0) ≤ 0 → RY d 155 0 [vr 405, vi i1, vi i2, vi i3, vr 0, vr 0, vr 0, vr 0] [] V D (yback d 46 23 [vr 405, vi i1, vi i2, vi i3, vr 0] [] Q)) ∧ ((0 : Int) < (V 405 0) → Q (.inl (some (vi 0))) V D)) :
    RY d 46 7 [vr 405, vi i1, vi i2, vi i3, vr 0] [] V D Q := yat (c := xk_46) (hd := []) (dk := []) (dv := []) (nb := [460011]) rfl h
set_option maxRecDepth 20000 in
theorem u_46_23 {d : Nat} {i1 i2 i3 i_0 : Int} {V : xF} {D : yD} {Q : xRes → xF → yD → Prop}
    (h : RY d 178 0 [vr 405, vr 0, vr 0] [] V D (yback d 46 29 [vr 405, vi i1, vi i2, vi i3, vi i_0] [] Q)) :
    RY d 46 23 [vr 405, vi i1, vi i2, vi i3, vr 0] [vi i_0] V D Q := yat (c := xk_46) (hd := []) (dk := []) (dv := []) (nb := []) rfl h
set_option maxRecDepth 20000 in
theorem u_46_29 {d : Nat} {i1 i2 i3 i4 i_0 : Int} {V : xF} {D : yD} {Q : xRes → xF → yD → Prop}
    (h : Q (.inl (some (vi i_0))) V D) :
    RY d 46 29 [vr 405, vi i1, vi i2, vi i3, vi i4] [vi i_0] V D Q := yat (c := xk_46) (hd := []) (dk := []) (dv := []) (nb := []) rfl h
set_option maxRecDepth 20000 in
theorem u_47_0 {d : Nat} {i1 i2 i3 i4 : Int} {V : xF} {D : yD} {Q : xRes → xF → yD → Prop}
    (h : RY d 179 0 [vr 70, vi i1, vi i2, vi i3, vi i4] [] V D (yback d 47 12 [vr 70, vi i1, vi i2, vi i3, vi i4, vr 420, vr 0] [vi 0, vr 420] Q)) :
    RY d 47 0 [vr 70, vi i1, vi i2, vi i3, vi i4, vr 420, vr 0] [] V D Q := yat (c := xk_47) (hd := []) (dk := []) (dv := []) (nb := []) rfl h
set_option maxRecDepth 20000 in
theorem u_47_12 {d : Nat} {i1 i2 i3 i4 i_1 i_2 : Int} {V : xF} {D : yD} {Q : xRes → xF → yD → Prop}
    (h : ((0 : Int) ≤ i_1 ∧ i_1 < (1 : Int)) ∧ (∀ D1 : yD, D1 = (up2 D.1 420 i_1.toNat i_2, D.2) → Q (.inl (some (vi 0))) V D1)) :
    RY d 47 12 [vr 70, vi i1, vi i2, vi i3, vi i4, vr 420, vr 0] [vi i_2, vi i_1, vr 420] V D Q := yat (c := xk_47) (hd := []) (dk := []) (dv := [470013]) (nb := []) rfl h
set_option maxRecDepth 20000 in
theorem u_47_17 {d : Nat} {i1 i2 i3 i4 : Int} {V : xF} {D : yD} {Q : xRes → xF → yD → Prop}
    (h : Q (.inl (some (vi 1))) V D) :
    RY d 47 17 [vr 70, vi i1, vi i2, vi i3, vi i4, vr 420, vr 0] [vr 0] V D Q := yat (c := xk_47) (hd := []) (dk := []) (dv := []) (nb := []) rfl h
set_option maxRecDepth 20000 in
theorem u_48_0 {d : Nat} {i1 i2 i3 i4 : Int} {V : xF} {D : yD} {Q : xRes → xF → yD → Prop}
    (h : RY d 154 0 [vr 405, vi i1, vi i2, vi i3] [] V D (yback d 48 7 [vr 405, vi i1, vi i2, vi i3, vi i4, vr 0] [] Q)) :
    RY d 48 0 [vr 405, vi i1, vi i2, vi i3, vi i4, vr 0] [] V D Q := yat (c := xk_48) (hd := []) (dk := []) (dv := []) (nb := []) rfl h
set_option maxRecDepth 20000 in
theorem u_48_7 {d : Nat} {i1 i2 i3 i4 : Int} {V : xF} {D : yD} {Q : xRes → xF → yD → Prop}
    (h : ((V 405 0) ≤ 0 → RY d 155 0 [vr 405, vi i1, vi i2, vi i3, vr 0, vr 0, vr 0, vr 0] [] V D (yback d 48 23 [vr 405, vi i1, vi i2, vi i3, vi i4, vr 0] [] Q)) ∧ ((0 : Int) < (V 405 0) → Q (.inl (some (vi 0))) V D)) :
    RY d 48 7 [vr 405, vi i1, vi i2, vi i3, vi i4, vr 0] [] V D Q := yat (c := xk_48) (hd := []) (dk := []) (dv := []) (nb := [480011]) rfl h
set_option maxRecDepth 20000 in
theorem u_48_23 {d : Nat} {i1 i2 i3 i4 i_0 : Int} {V : xF} {D : yD} {Q : xRes → xF → yD → Prop}
    (h : ((yr_124 i4 0 63 V D) = 0 → Q (.inl (some (vi 0))) V D) ∧ ((yr_124 i4 0 63 V D) ≠ 0 → (((0 : Int) ≤ i4 ∧ i4 < (64 : Int)) ∧ Q (.inl (some (vi (V 413 i4.toNat)))) V D))) :
    RY d 48 23 [vr 405, vi i1, vi i2, vi i3, vi i4, vr 0] [vi i_0] V D Q := yat (c := xk_48) (hd := []) (dk := []) (dv := [480042]) (nb := [480033]) rfl h
set_option maxRecDepth 20000 in
theorem u_49_0 {d : Nat} {i1 i2 : Int} {V : xF} {D : yD} {Q : xRes → xF → yD → Prop}
    (h : RY d 180 0 [vr 70, vi i1, vi i2, vr 0] [] V D (yback d 49 8 [vr 70, vi i1, vi i2, vr 420, vr 0] [vi 0, vr 420] Q)) :
    RY d 49 0 [vr 70, vi i1, vi i2, vr 420, vr 0] [] V D Q := yat (c := xk_49) (hd := []) (dk := []) (dv := []) (nb := []) rfl h
set_option maxRecDepth 20000 in
theorem u_49_8 {d : Nat} {i1 i2 i_1 i_2 : Int} {V : xF} {D : yD} {Q : xRes → xF → yD → Prop}
    (h : ((0 : Int) ≤ i_1 ∧ i_1 < (1 : Int)) ∧ (∀ D1 : yD, D1 = (up2 D.1 420 i_1.toNat i_2, D.2) → Q (.inl (some (vi 0))) V D1)) :
    RY d 49 8 [vr 70, vi i1, vi i2, vr 420, vr 0] [vi i_2, vi i_1, vr 420] V D Q := yat (c := xk_49) (hd := []) (dk := []) (dv := [490009]) (nb := []) rfl h
set_option maxRecDepth 20000 in
theorem u_49_13 {d : Nat} {i1 i2 : Int} {V : xF} {D : yD} {Q : xRes → xF → yD → Prop}
    (h : Q (.inl (some (vi 1))) V D) :
    RY d 49 13 [vr 70, vi i1, vi i2, vr 420, vr 0] [vr 0] V D Q := yat (c := xk_49) (hd := []) (dk := []) (dv := []) (nb := []) rfl h
set_option maxRecDepth 20000 in
theorem u_49_17 {d : Nat} {i1 i2 : Int} {V : xF} {D : yD} {Q : xRes → xF → yD → Prop}
    (h : Q (.inl (some (vi 2))) V D) :
    RY d 49 17 [vr 70, vi i1, vi i2, vr 420, vr 0] [vr 0] V D Q := yat (c := xk_49) (hd := []) (dk := []) (dv := []) (nb := []) rfl h
set_option maxRecDepth 20000 in
theorem u_50_0 {d : Nat} {i1 i2 : Int} {V : xF} {D : yD} {Q : xRes → xF → yD → Prop}
    (h : yg_132 i1 V D ∧ RY d 181 0 [vr 405, vi (yr_132 i1 V D), vr 0] [] V D (yback d 50 9 [vr 405, vi i1, vi i2, vr 0, vr 0, vr 0] [] Q)) :
    RY d 50 0 [vr 405, vi i1, vi i2, vr 0, vr 0, vr 0] [] V D Q := yat (c := xk_50) (hd := [500037]) (dk := []) (dv := []) (nb := []) rfl h
set_option maxRecDepth 20000 in
theorem u_50_9 {d : Nat} {i1 i2 i_0 : Int} {V : xF} {D : yD} {Q : xRes → xF → yD → Prop}
    (h : ((V 405 0) ≤ 0 → RY d 182 0 [vr 405, vi i1, vi i_0, vr 0, vr 0, vr 0, vr 0, vr 0] [] V D (yback d 50 25 [vr 405, vi i1, vi i2, vi i_0, vr 0, vr 0] [] Q)) ∧ ((0 : Int) < (V 405 0) → Q (.inl (some (vi 0))) V D)) :
    RY d 50 9 [vr 405, vi i1, vi i2, vr 0, vr 0, vr 0] [vi i_0] V D Q := yat (c := xk_50) (hd := [500037]) (dk := []) (dv := []) (nb := [500014]) rfl h
set_option maxRecDepth 20000 in
theorem u_50_25 {d : Nat} {i1 i2 i3 i_0 : Int} {V : xF} {D : yD} {Q : xRes → xF → yD → Prop}
    (h : (i2 ≠ 0 → RY d 50 37 [vr 405, vi i1, vi i2, vi i3, vi i_0, vi 0] [] V D Q) ∧ (i2 = 0 → Q (.inl (some (vi i_0))) V D)) :
    RY d 50 25 [vr 405, vi i1, vi i2, vi i3, vr 0, vr 0] [vi i_0] V D Q := yat (c := xk_50) (hd := [500037]) (dk := []) (dv := []) (nb := [500028]) rfl h
set_option maxRecDepth 20000 in
theorem u_50_37 {d : Nat} {i1 i2 i3 i4 i5 : Int} {V : xF} {D : yD} {Q : xRes → xF → yD → Prop}
    (h : ((256 : Int) ≤ i5 → Q (.inl (some (vi ((-1))))) V D) ∧ (i5 < 256 → (((0 : Int) ≤ i5 ∧ i5 < (256 : Int)) ∧ (((V 415 i5.toNat) = 0 → RY d 50 37 [vr 405, vi i1, vi i2, vi i3, vi i4, vi (wr (i5 + 1))] [] V D Q) ∧ ((V 415 i5.toNat) ≠ 0 → Q (.inl (some (vi i5))) V D))))) :
    RY d 50 37 [vr 405, vi i1, vi i2, vi i3, vi i4, vi i5] [] V D Q := yat (c := xk_50) (hd := [500037]) (dk := []) (dv := [500051]) (nb := [500042, 500052]) rfl h
set_option maxRecDepth 20000 in
theorem u_51_0 {d : Nat} {i1 : Int} {V : xF} {D : yD} {Q : xRes → xF → yD → Prop}
    (h : RY d 183 0 [vr 70, vi i1, vr 0] [] V D (yback d 51 7 [vr 70, vi i1, vr 420, vr 0] [vi 0, vr 420] Q)) :
    RY d 51 0 [vr 70, vi i1, vr 420, vr 0] [] V D Q := yat (c := xk_51) (hd := []) (dk := []) (dv := []) (nb := []) rfl h
set_option maxRecDepth 20000 in
theorem u_51_7 {d : Nat} {i1 i_1 i_2 : Int} {V : xF} {D : yD} {Q : xRes → xF → yD → Prop}
    (h : ((0 : Int) ≤ i_1 ∧ i_1 < (1 : Int)) ∧ (∀ D1 : yD, D1 = (up2 D.1 420 i_1.toNat i_2, D.2) → Q (.inl (some (vi 0))) V D1)) :
    RY d 51 7 [vr 70, vi i1, vr 420, vr 0] [vi i_2, vi i_1, vr 420] V D Q := yat (c := xk_51) (hd := []) (dk := []) (dv := [510008]) (nb := []) rfl h
set_option maxRecDepth 20000 in
theorem u_51_12 {d : Nat} {i1 : Int} {V : xF} {D : yD} {Q : xRes → xF → yD → Prop}
    (h : Q (.inl (some (vi 1))) V D) :
    RY d 51 12 [vr 70, vi i1, vr 420, vr 0] [vr 0] V D Q := yat (c := xk_51) (hd := []) (dk := []) (dv := []) (nb := []) rfl h
set_option maxRecDepth 20000 in
theorem u_51_15 {d : Nat} {i1 : Int} {V : xF} {D : yD} {Q : xRes → xF → yD → Prop}
    (h : Q (.inl (some (vi 2))) V D) :
    RY d 51 15 [vr 70, vi i1, vr 420, vr 0] [vr 0] V D Q := yat (c := xk_51) (hd := []) (dk := []) (dv := []) (nb := []) rfl h
set_option maxRecDepth 20000 in
theorem u_52_0 {d : Nat} {i1 : Int} {V : xF} {D : yD} {Q : xRes → xF → yD → Prop}
    (h : yg_132 i1 V D ∧ RY d 181 0 [vr 405, vi (yr_132 i1 V D), vr 0] [] V D (yback d 52 9 [vr 405, vi i1, vr 0, vr 0, vr 0, vr 0, vr 0, vr 0, vr 0] [] Q)) :
    RY d 52 0 [vr 405, vi i1, vr 0, vr 0, vr 0, vr 0, vr 0, vr 0, vr 0] [] V D Q := yat (c := xk_52) (hd := [520037, 520054]) (dk := []) (dv := []) (nb := []) rfl h
set_option maxRecDepth 20000 in
theorem u_52_9 {d : Nat} {i1 i_0 : Int} {V : xF} {D : yD} {Q : xRes → xF → yD → Prop}
    (h : ((V 405 0) ≤ 0 → RY d 182 0 [vr 405, vi i1, vi i_0, vr 0, vr 0, vr 0, vr 0, vr 0] [] V D (yback d 52 25 [vr 405, vi i1, vi i_0, vr 0, vr 0, vr 0, vr 0, vr 0, vr 0] [] Q)) ∧ ((0 : Int) < (V 405 0) → Q (.inl (some (vi 0))) V D)) :
    RY d 52 9 [vr 405, vi i1, vr 0, vr 0, vr 0, vr 0, vr 0, vr 0, vr 0] [vi i_0] V D Q := yat (c := xk_52) (hd := [520037, 520054]) (dk := []) (dv := []) (nb := [520014]) rfl h
set_option maxRecDepth 20000 in
theorem u_52_25 {d : Nat} {i1 i2 i_0 : Int} {V : xF} {D : yD} {Q : xRes → xF → yD → Prop}
    (h : RY d 52 37 [vr 405, vi i1, vi i2, vi i_0, vi ((-1)), vi 2000000000, vi 0, vr 0, vr 0] [] V D Q) :
    RY d 52 25 [vr 405, vi i1, vi i2, vr 0, vr 0, vr 0, vr 0, vr 0, vr 0] [vi i_0] V D Q := yat (c := xk_52) (hd := [520037, 520054]) (dk := []) (dv := []) (nb := []) rfl h
set_option maxRecDepth 20000 in
theorem u_52_37 {d : Nat} {i1 i2 i3 i4 i5 i6 : Int} {v7 v8 : xV} {V : xF} {D : yD} {Q : xRes → xF → yD → Prop}
    (h : ((4 : Int) ≤ i6 → Q (.inl (some (vi i4))) V D) ∧ (i6 < 4 → ((i3 ≤ 1 → Q (.inl (some (vi i4))) V D) ∧ ((1 : Int) < i3 → RY d 52 54 [vr 405, vi i1, vi i2, vi i3, vi i4, vi i5, vi i6, vi 0, vi 0] [] V D Q)))) :
    RY d 52 37 [vr 405, vi i1, vi i2, vi i3, vi i4, vi i5, vi i6, v7, v8] [] V D Q := yat (c := xk_52) (hd := [520037, 520054]) (dk := []) (dv := []) (nb := [520040, 520045]) rfl h
set_option maxRecDepth 20000 in
theorem u_52_54 {d : Nat} {i1 i2 i3 i4 i5 i6 i7 i8 : Int} {V : xF} {D : yD} {Q : xRes → xF → yD → Prop}
    (h : ((256 : Int) ≤ i8 → ((i7 < i5 → RY d 52 37 [vr 405, vi i1, vi i2, vi i3, vi i6, vi i7, vi (wr (i6 + 1)), vi i7, vi i8] [] V D Q) ∧ (i5 ≤ i7 → RY d 52 37 [vr 405, vi i1, vi i2, vi i3, vi i4, vi i5, vi (wr (i6 + 1)), vi i7, vi i8] [] V D Q))) ∧ (i8 < 256 → (((0 : Int) ≤ i8 ∧ i8 < (256 : Int)) ∧ (((V 415 i8.toNat) = 0 → RY d 52 54 [vr 405, vi i1, vi i2, vi i3, vi i4, vi i5, vi i6, vi i7, vi (wr (i8 + 1))] [] V D Q) ∧ ((V 415 i8.toNat) ≠ 0 → RY d 184 0 [vr 405, vi i1, vi i8, vi i6, vr 0, vr 0, vr 0, vr 0, vr 0, vr 0, vr 0] [] V D (yback d 52 83 [vr 405, vi i1, vi i2, vi i3, vi i4, vi i5, vi i6, vi i7, vi i8] [vi i7] Q)))))) :
    RY d 52 54 [vr 405, vi i1, vi i2, vi i3, vi i4, vi i5, vi i6, vi i7, vi i8] [] V D Q := yat (c := xk_52) (hd := [520037, 520054]) (dk := []) (dv := [520068]) (nb := [520059, 520069, 520098]) rfl h
set_option maxRecDepth 20000 in
theorem u_52_83 {d : Nat} {i1 i2 i3 i4 i5 i6 i7 i8 i_0 i_1 : Int} {V : xF} {D : yD} {Q : xRes → xF → yD → Prop}
    (h : RY d 52 54 [vr 405, vi i1, vi i2, vi i3, vi i4, vi i5, vi i6, vi (yr_185 i_0 i_1 V D), vi (wr (i8 + 1))] [] V D Q) :
    RY d 52 83 [vr 405, vi i1, vi i2, vi i3, vi i4, vi i5, vi i6, vi i7, vi i8] [vi i_1, vi i_0] V D Q := yat (c := xk_52) (hd := [520037, 520054]) (dk := []) (dv := []) (nb := []) rfl h
set_option maxRecDepth 20000 in
theorem u_53_0 {d : Nat} {V : xF} {D : yD} {Q : xRes → xF → yD → Prop}
    (h : RY d 186 0 [vr 70, vr 0, vr 0] [] V D (yback d 53 6 [vr 70, vr 420, vr 0] [vi 0, vr 420] Q)) :
    RY d 53 0 [vr 70, vr 420, vr 0] [] V D Q := yat (c := xk_53) (hd := []) (dk := []) (dv := []) (nb := []) rfl h
set_option maxRecDepth 20000 in
theorem u_53_6 {d : Nat} {i_1 i_2 : Int} {V : xF} {D : yD} {Q : xRes → xF → yD → Prop}
    (h : ((0 : Int) ≤ i_1 ∧ i_1 < (1 : Int)) ∧ (∀ D1 : yD, D1 = (up2 D.1 420 i_1.toNat i_2, D.2) → Q (.inl (some (vi 0))) V D1)) :
    RY d 53 6 [vr 70, vr 420, vr 0] [vi i_2, vi i_1, vr 420] V D Q := yat (c := xk_53) (hd := []) (dk := []) (dv := [530007]) (nb := []) rfl h
set_option maxRecDepth 20000 in
theorem u_53_11 {d : Nat} {V : xF} {D : yD} {Q : xRes → xF → yD → Prop}
    (h : Q (.inl (some (vi 1))) V D) :
    RY d 53 11 [vr 70, vr 420, vr 0] [vr 0] V D Q := yat (c := xk_53) (hd := []) (dk := []) (dv := []) (nb := []) rfl h
set_option maxRecDepth 20000 in
theorem u_54_0 {d : Nat} {V : xF} {D : yD} {Q : xRes → xF → yD → Prop}
    (h : RY d 181 0 [vr 405, vi 1, vr 0] [] V D (yback d 54 5 [vr 405, vr 0, vr 0, vr 0, vr 0] [] Q)) :
    RY d 54 0 [vr 405, vr 0, vr 0, vr 0, vr 0] [] V D Q := yat (c := xk_54) (hd := [540035]) (dk := []) (dv := []) (nb := []) rfl h
set_option maxRecDepth 20000 in
theorem u_54_5 {d : Nat} {i_0 : Int} {V : xF} {D : yD} {Q : xRes → xF → yD → Prop}
    (h : ((V 405 0) ≤ 0 → ∀ V1 : xF, V1 = up2 V 405 0 0 → (((V1 405 0) ≤ 0 → RY d 54 35 [vr 405, vi i_0, vi 0, vi 0, vr 0] [] V1 D Q) ∧ ((0 : Int) < (V1 405 0) → Q (.inl (some (vi 0))) V1 D))) ∧ ((0 : Int) < (V 405 0) → ∀ V2 : xF, V2 = up2 V 405 0 1 → (((V2 405 0) ≤ 0 → RY d 54 35 [vr 405, vi i_0, vi 0, vi 0, vr 0] [] V2 D Q) ∧ ((0 : Int) < (V2 405 0) → Q (.inl (some (vi 0))) V2 D)))) :
    RY d 54 5 [vr 405, vr 0, vr 0, vr 0, vr 0] [vi i_0] V D Q := yat (c := xk_54) (hd := [540035]) (dk := []) (dv := []) (nb := [540011, 540026]) rfl h
set_option maxRecDepth 20000 in
theorem u_54_35 {d : Nat} {i1 i2 i3 : Int} {v4 : xV} {V : xF} {D : yD} {Q : xRes → xF → yD → Prop}
    (h : ((V 406 3) ≤ i3 → Q (.inl (some (vi i2))) V D) ∧ (i3 < (V 406 3) → RY d 135 0 [vr 405, vi i3] [] V D (yback d 54 50 [vr 405, vi i1, vi i2, vi i3, v4] [] Q))) :
    RY d 54 35 [vr 405, vi i1, vi i2, vi i3, v4] [] V D Q := yat (c := xk_54) (hd := [540035]) (dk := []) (dv := []) (nb := [540042]) rfl h
set_option maxRecDepth 20000 in
theorem u_54_50 {d : Nat} {i1 i2 i3 i_0 : Int} {v4 : xV} {V : xF} {D : yD} {Q : xRes → xF → yD → Prop}
    (h : RY d 187 0 [vr 405, vi i1, vr 0, vr 0] [] V D (yback d 54 58 [vr 405, vi i1, vi i2, vi i3, vi i_0] [vi i2] Q)) :
    RY d 54 50 [vr 405, vi i1, vi i2, vi i3, v4] [vi i_0] V D Q := yat (c := xk_54) (hd := [540035]) (dk := []) (dv := []) (nb := []) rfl h
set_option maxRecDepth 20000 in
theorem u_54_58 {d : Nat} {i1 i2 i3 i4 i_0 i_1 : Int} {V : xF} {D : yD} {Q : xRes → xF → yD → Prop}
    (h : (i_1 = 0 → RY d 54 35 [vr 405, vi i1, vi (xor_ i_0 0), vi (wr (i3 + 1)), vi i4] [] V D Q) ∧ (i_1 ≠ 0 → RY d 54 35 [vr 405, vi i1, vi (xor_ i_0 (xshl 1 i3)), vi (wr (i3 + 1)), vi i4] [] V D Q)) :
    RY d 54 58 [vr 405, vi i1, vi i2, vi i3, vi i4] [vi i_1, vi i_0] V D Q := yat (c := xk_54) (hd := [540035]) (dk := []) (dv := []) (nb := [540058]) rfl h
set_option maxRecDepth 20000 in
theorem u_55_0 {d : Nat} {i1 i2 : Int} {V : xF} {D : yD} {Q : xRes → xF → yD → Prop}
    (h : RY d 188 0 [vr 70, vi i1, vi i2] [] V D (yback d 55 8 [vr 70, vi i1, vi i2, vr 420, vr 0] [vi 0, vr 420] Q)) :
    RY d 55 0 [vr 70, vi i1, vi i2, vr 420, vr 0] [] V D Q := yat (c := xk_55) (hd := []) (dk := []) (dv := []) (nb := []) rfl h
set_option maxRecDepth 20000 in
theorem u_55_8 {d : Nat} {i1 i2 i_1 i_2 : Int} {V : xF} {D : yD} {Q : xRes → xF → yD → Prop}
    (h : ((0 : Int) ≤ i_1 ∧ i_1 < (1 : Int)) ∧ (∀ D1 : yD, D1 = (up2 D.1 420 i_1.toNat i_2, D.2) → Q (.inl (some (vi 0))) V D1)) :
    RY d 55 8 [vr 70, vi i1, vi i2, vr 420, vr 0] [vi i_2, vi i_1, vr 420] V D Q := yat (c := xk_55) (hd := []) (dk := []) (dv := [550009]) (nb := []) rfl h
set_option maxRecDepth 20000 in
theorem u_55_13 {d : Nat} {i1 i2 : Int} {V : xF} {D : yD} {Q : xRes → xF → yD → Prop}
    (h : Q (.inl (some (vi 1))) V D) :
    RY d 55 13 [vr 70, vi i1, vi i2, vr 420, vr 0] [vr 0] V D Q := yat (c := xk_55) (hd := []) (dk := []) (dv := []) (nb := []) rfl h
set_option maxRecDepth 20000 in
theorem u_55_17 {d : Nat} {i1 i2 : Int} {V : xF} {D : yD} {Q : xRes → xF → yD → Prop}
    (h : Q (.inl (some (vi 2))) V D) :
    RY d 55 17 [vr 70, vi i1, vi i2, vr 420, vr 0] [vr 0] V D Q := yat (c := xk_55) (hd := []) (dk := []) (dv := []) (nb := []) rfl h
set_option maxRecDepth 20000 in
theorem u_56_0 {d : Nat} {i1 i2 : Int} {V : xF} {D : yD} {Q : xRes → xF → yD → Prop}
    (h : RY d 151 0 [vr 405, vi i1, vi i2] [] V D (yback d 56 6 [vr 405, vi i1, vi i2] [] Q)) :
    RY d 56 0 [vr 405, vi i1, vi i2] [] V D Q := yat (c := xk_56) (hd := []) (dk := []) (dv := []) (nb := []) rfl h
set_option maxRecDepth 20000 in
theorem u_56_6 {d : Nat} {i1 i2 : Int} {V : xF} {D : yD} {Q : xRes → xF → yD → Prop}
    (h : ((V 405 0) ≤ 0 → RY d 189 0 [vr 405, vi i1, vi i2, vr 0, vr 0, vr 0, vr 0, vr 0, vr 0, vr 0] [] V D (yback d 56 23 [vr 405, vi i1, vi i2] [] Q)) ∧ ((0 : Int) < (V 405 0) → Q (.inl (some (vi 0))) V D)) :
    RY d 56 6 [vr 405, vi i1, vi i2] [] V D Q := yat (c := xk_56) (hd := []) (dk := []) (dv := []) (nb := [560010]) rfl h
set_option maxRecDepth 20000 in
theorem u_56_23 {d : Nat} {i1 i2 i_0 : Int} {V : xF} {D : yD} {Q : xRes → xF → yD → Prop}
    (h : Q (.inl (some (vi i_0))) V D) :
    RY d 56 23 [vr 405, vi i1, vi i2] [vi i_0] V D Q := yat (c := xk_56) (hd := []) (dk := []) (dv := []) (nb := []) rfl h
set_option maxRecDepth 20000 in
theorem u_57_0 {d : Nat} {V : xF} {D : yD} {Q : xRes → xF → yD → Prop}
    (h : RY d 190 0 [vr 382, vr 81, vr 0, vr 0, vr 0] [] V D (yback d 57 11 [vr 70] [] Q)) :
    RY d 57 0 [vr 70] [] V D Q := yat (c := xk_57) (hd := []) (dk := []) (dv := []) (nb := []) rfl h
set_option maxRecDepth 20000 in
theorem u_57_11 {d : Nat} {i_0 : Int} {V : xF} {D : yD} {Q : xRes → xF → yD → Prop}
    (h : Q (.inl (some (vi i_0))) V D) :
    RY d 57 11 [vr 70] [vi i_0] V D Q := yat (c := xk_57) (hd := []) (dk := []) (dv := []) (nb := []) rfl h
set_option maxRecDepth 20000 in
theorem u_58_0 {d : Nat} {V : xF} {D : yD} {Q : xRes → xF → yD → Prop}
    (h : ∀ V1 : xF, V1 = up2 V 405 0 0 → RY d 58 9 [vr 405, vi 0, vi 0, vr 0] [] V1 D Q) :
    RY d 58 0 [vr 405, vr 0, vr 0, vr 0] [] V D Q := yat (c := xk_58) (hd := [580009, 580023]) (dk := []) (dv := []) (nb := []) rfl h
set_option maxRecDepth 20000 in
theorem u_58_9 {d : Nat} {i1 i2 : Int} {v3 : xV} {V : xF} {D : yD} {Q : xRes → xF → yD → Prop}
    (h : ((V 406 3) ≤ i2 → Q (.inl (some (vi i1))) V D) ∧ (i2 < (V 406 3) → RY d 58 23 [vr 405, vi i1, vi i2, vi (wr (i2 + 1))] [] V D Q)) :
    RY d 58 9 [vr 405, vi i1, vi i2, v3] [] V D Q := yat (c := xk_58) (hd := [580009, 580023]) (dk := []) (dv := []) (nb := [580016]) rfl h
set_option maxRecDepth 20000 in
theorem u_58_23 {d : Nat} {i1 i2 i3 : Int} {V : xF} {D : yD} {Q : xRes → xF → yD → Prop}
    (h : ((V 406 3) ≤ i3 → RY d 58 9 [vr 405, vi i1, vi (wr (i2 + 1)), vi i3] [] V D Q) ∧ (i3 < (V 406 3) → RY d 189 0 [vr 405, vi i2, vi i3, vr 0, vr 0, vr 0, vr 0, vr 0, vr 0, vr 0] [] V D (yback d 58 40 [vr 405, vi i1, vi i2, vi i3] [vi i1] Q))) :
    RY d 58 23 [vr 405, vi i1, vi i2, vi i3] [] V D Q := yat (c := xk_58) (hd := [580009, 580023]) (dk := []) (dv := []) (nb := [580030]) rfl h
set_option maxRecDepth 20000 in
theorem u_58_40 {d : Nat} {i1 i2 i3 i_0 i_1 : Int} {V : xF} {D : yD} {Q : xRes → xF → yD → Prop}
    (h : (i_1 ≠ ((-1)) → RY d 58 23 [vr 405, vi (wr (i_0 + 0)), vi i2, vi (wr (i3 + 1))] [] V D Q) ∧ (i_1 = ((-1)) → RY d 58 23 [vr 405, vi (wr (i_0 + 1)), vi i2, vi (wr (i3 + 1))] [] V D Q)) :
    RY d 58 40 [vr 405, vi i1, vi i2, vi i3] [vi i_1, vi i_0] V D Q := yat (c := xk_58) (hd := [580009, 580023]) (dk := []) (dv := []) (nb := [580041]) rfl h
set_option maxRecDepth 20000 in
theorem u_59_0 {d : Nat} {i1 : Int} {V : xF} {D : yD} {Q : xRes → xF → yD → Prop}
    (h : RY d 191 0 [vr 382, vr 81, vi i1, vr 0, vr 0, vr 0, vr 0, vr 0] [] V D (yback d 59 12 [vr 70, vi i1] [] Q)) :
    RY d 59 0 [vr 70, vi i1] [] V D Q := yat (c := xk_59) (hd := []) (dk := []) (dv := []) (nb := []) rfl h
set_option maxRecDepth 20000 in
theorem u_59_12 {d : Nat} {i1 i_0 : Int} {V : xF} {D : yD} {Q : xRes → xF → yD → Prop}
    (h : Q (.inl (some (vi i_0))) V D) :
    RY d 59 12 [vr 70, vi i1] [vi i_0] V D Q := yat (c := xk_59) (hd := []) (dk := []) (dv := []) (nb := []) rfl h
set_option maxRecDepth 20000 in
theorem u_60_0 {d : Nat} {i1 : Int} {V : xF} {D : yD} {Q : xRes → xF → yD → Prop}
    (h : ∀ V1 : xF, V1 = up2 V 405 0 0 → (((V1 406 3) ≠ 0 → RY d 60 25 [vr 405, vi i1, vi 12, vi 12, vi 0, vr 0, vr 0, vr 0, vr 0] [] V1 D Q) ∧ ((V1 406 3) = 0 → Q (.inl (some (vi ((-1))))) V1 D))) :
    RY d 60 0 [vr 405, vi i1, vr 0, vr 0, vr 0, vr 0, vr 0, vr 0, vr 0] [] V D Q := yat (c := xk_60) (hd := [600025, 600075, 600084]) (dk := []) (dv := []) (nb := [600011]) rfl h
set_option maxRecDepth 20000 in
theorem u_60_25 {d : Nat} {i1 i2 i3 i4 : Int} {V : xF} {D : yD} {Q : xRes → xF → yD → Prop}
    (h : ((V 406 3) ≤ i4 → RY d 60 75 [vr 405, vi i1, vi i2, vi i3, vi ((-1)), vi ((-1)), vi 1, vr 0, vr 0] [] V D Q) ∧ (i4 < (V 406 3) → (yg_133 i4 0 V D ∧ yg_133 i4 1 V D ∧ RY d 60 25 [vr 405, vi i1, vi (yr_169 i2 (yr_133 i4 0 V D) V D), vi (yr_169 i3 (yr_133 i4 1 V D) V D), vi (wr (i4 + 1)), vr 0, vr 0, vr 0, vr 0] [] V D Q))) :
    RY d 60 25 [vr 405, vi i1, vi i2, vi i3, vi i4, vr 0, vr 0, vr 0, vr 0] [] V D Q := yat (c := xk_60) (hd := [600025, 600075, 600084]) (dk := []) (dv := []) (nb := [600033]) rfl h
set_option maxRecDepth 20000 in
theorem u_60_75 {d : Nat} {i1 i2 i3 i4 i5 i6 : Int} {v7 v8 : xV} {V : xF} {D : yD} {Q : xRes → xF → yD → Prop}
    (h : (i2 ≤ i6 → ((i1 = 0 → Q (.inl (some (vi i4))) V D) ∧ (i1 ≠ 0 → Q (.inl (some (vi i5))) V D))) ∧ (i6 < i2 → RY d 60 84 [vr 405, vi i1, vi i2, vi i3, vi i4, vi i5, vi i6, vi 1, v8] [] V D Q)) :
    RY d 60 75 [vr 405, vi i1, vi i2, vi i3, vi i4, vi i5, vi i6, v7, v8] [] V D Q := yat (c := xk_60) (hd := [600025, 600075, 600084]) (dk := []) (dv := []) (nb := [600078, 600137]) rfl h
set_option maxRecDepth 20000 in
theorem u_60_84 {d : Nat} {i1 i2 i3 i4 i5 i6 i7 : Int} {v8 : xV} {V : xF} {D : yD} {Q : xRes → xF → yD → Prop}
    (h : (i3 ≤ i7 → RY d 60 75 [vr 405, vi i1, vi i2, vi i3, vi i4, vi i5, vi (wr (i6 + 1)), vi i7, v8] [] V D Q) ∧ (i7 < i3 → RY d 192 0 [vr 405, vi i6, vi i7, vr 0, vr 0, vr 0] [] V D (yback d 60 98 [vr 405, vi i1, vi i2, vi i3, vi i4, vi i5, vi i6, vi i7, v8] [] Q))) :
    RY d 60 84 [vr 405, vi i1, vi i2, vi i3, vi i4, vi i5, vi i6, vi i7, v8] [] V D Q := yat (c := xk_60) (hd := [600025, 600075, 600084]) (dk := []) (dv := []) (nb := [600087]) rfl h
set_option maxRecDepth 20000 in
theorem u_60_98 {d : Nat} {i1 i2 i3 i4 i5 i6 i7 i_0 : Int} {v8 : xV} {V : xF} {D : yD} {Q : xRes → xF → yD → Prop}
    (h : (i5 < i_0 → RY d 60 84 [vr 405, vi i1, vi i2, vi i3, vi (wr ((wr ((16 : Int) * i6)) + i7)), vi i_0, vi i6, vi (wr (i7 + 1)), vi i_0] [] V D Q) ∧ (i_0 ≤ i5 → RY d 60 84 [vr 405, vi i1, vi i2, vi i3, vi i4, vi i5, vi i6, vi (wr (i7 + 1)), vi i_0] [] V D Q)) :
    RY d 60 98 [vr 405, vi i1, vi i2, vi i3, vi i4, vi i5, vi i6, vi i7, v8] [vi i_0] V D Q := yat (c := xk_60) (hd := [600025, 600075, 600084]) (dk := []) (dv := []) (nb := [600104]) rfl h
set_option maxRecDepth 20000 in
theorem u_61_0 {d : Nat} {i1 i2 i3 : Int} {V : xF} {D : yD} {Q : xRes → xF → yD → Prop}
    (h : RY d 193 0 [vr 70, vi i1, vi i2, vi i3] [] V D (yback d 61 10 [vr 70, vi i1, vi i2, vi i3, vr 420, vr 0] [vi 0, vr 420] Q)) :
    RY d 61 0 [vr 70, vi i1, vi i2, vi i3, vr 420, vr 0] [] V D Q := yat (c := xk_61) (hd := []) (dk := []) (dv := []) (nb := []) rfl h
set_option maxRecDepth 20000 in
theorem u_61_10 {d : Nat} {i1 i2 i3 i_1 i_2 : Int} {V : xF} {D : yD} {Q : xRes → xF → yD → Prop}
    (h : ((0 : Int) ≤ i_1 ∧ i_1 < (1 : Int)) ∧ (∀ D1 : yD, D1 = (up2 D.1 420 i_1.toNat i_2, D.2) → Q (.inl (some (vi 0))) V D1)) :
    RY d 61 10 [vr 70, vi i1, vi i2, vi i3, vr 420, vr 0] [vi i_2, vi i_1, vr 420] V D Q := yat (c := xk_61) (hd := []) (dk := []) (dv := [610011]) (nb := []) rfl h
set_option maxRecDepth 20000 in
theorem u_61_15 {d : Nat} {i1 i2 i3 : Int} {V : xF} {D : yD} {Q : xRes → xF → yD → Prop}
    (h : Q (.inl (some (vi 1))) V D) :
    RY d 61 15 [vr 70, vi i1, vi i2, vi i3, vr 420, vr 0] [vr 0] V D Q := yat (c := xk_61) (hd := []) (dk := []) (dv := []) (nb := []) rfl h
set_option maxRecDepth 20000 in
theorem u_61_19 {d : Nat} {i1 i2 i3 : Int} {V : xF} {D : yD} {Q : xRes → xF → yD → Prop}
    (h : Q (.inl (some (vi 2))) V D) :
    RY d 61 19 [vr 70, vi i1, vi i2, vi i3, vr 420, vr 0] [vr 0] V D Q := yat (c := xk_61) (hd := []) (dk := []) (dv := []) (nb := []) rfl h
set_option maxRecDepth 20000 in
theorem u_62_0 {d : Nat} {i1 i2 i3 : Int} {V : xF} {D : yD} {Q : xRes → xF → yD → Prop}
    (h : RY d 151 0 [vr 405, vi i1, vi i2] [] V D (yback d 62 6 [vr 405, vi i1, vi i2, vi i3, vr 0, vr 0, vr 0, vr 0, vr 0, vr 0] [] Q)) :
    RY d 62 0 [vr 405, vi i1, vi i2, vi i3, vr 0, vr 0, vr 0, vr 0, vr 0, vr 0] [] V D Q := yat (c := xk_62) (hd := [620064, 620103]) (dk := []) (dv := []) (nb := []) rfl h
set_option maxRecDepth 20000 in
theorem u_62_6 {d : Nat} {i1 i2 i3 : Int} {V : xF} {D : yD} {Q : xRes → xF → yD → Prop}
    (h : ((V 405 0) ≤ 0 → (yg_133 i1 0 V D ∧ yg_133 i2 0 V D ∧ (((yr_133 i1 0 V D) ≠ (yr_133 i2 0 V D) → Q (.inl (some (vi ((-1))))) V D) ∧ ((yr_133 i1 0 V D) = (yr_133 i2 0 V D) → (yg_133 i1 1 V D ∧ yg_133 i2 1 V D ∧ (((yr_133 i1 1 V D) = (yr_133 i2 1 V D) → RY d 135 0 [vr 405, vi i2] [] V D (yback d 62 52 [vr 405, vi i1, vi i2, vi i3, vr 0, vr 0, vr 0, vr 0, vr 0, vr 0] [] Q)) ∧ ((yr_133 i1 1 V D) ≠ (yr_133 i2 1 V D) → Q (.inl (some (vi ((-1))))) V D))))))) ∧ ((0 : Int) < (V 405 0) → Q (.inl (some (vi 0))) V D)) :
    RY d 62 6 [vr 405, vi i1, vi i2, vi i3, vr 0, vr 0, vr 0, vr 0, vr 0, vr 0] [] V D Q := yat (c := xk_62) (hd := [620064, 620103]) (dk := []) (dv := []) (nb := [620010, 620027, 620042]) rfl h
set_option maxRecDepth 20000 in
theorem u_62_52 {d : Nat} {i1 i2 i3 i_0 : Int} {V : xF} {D : yD} {Q : xRes → xF → yD → Prop}
    (h : RY d 194 0 [vr 405, vr 0] [] V D (yback d 62 58 [vr 405, vi i1, vi i2, vi i3, vi i_0, vr 0, vr 0, vr 0, vr 0, vr 0] [] Q)) :
    RY d 62 52 [vr 405, vi i1, vi i2, vi i3, vr 0, vr 0, vr 0, vr 0, vr 0, vr 0] [vi i_0] V D Q := yat (c := xk_62) (hd := [620064, 620103]) (dk := []) (dv := []) (nb := []) rfl h
set_option maxRecDepth 20000 in
theorem u_62_58 {d : Nat} {i1 i2 i3 i4 : Int} {V : xF} {D : yD} {Q : xRes → xF → yD → Prop}
    (h : RY d 62 64 [vr 405, vi i1, vi i2, vi i3, vi i4, vi 0, vi 0, vr 0, vr 0, vr 0] [] V D Q) :
    RY d 62 58 [vr 405, vi i1, vi i2, vi i3, vi i4, vr 0, vr 0, vr 0, vr 0, vr 0] [] V D Q := yat (c := xk_62) (hd := [620064, 620103]) (dk := []) (dv := []) (nb := []) rfl h
set_option maxRecDepth 20000 in
theorem u_62_64 {d : Nat} {i1 i2 i3 i4 i5 i6 : Int} {V : xF} {D : yD} {Q : xRes → xF → yD → Prop}
    (h : ((4 : Int) ≤ i6 → RY d 62 103 [vr 405, vi i1, vi i2, vi i3, vi i4, vi i5, vi ((-1)), vi 2000000000, vi 0, vr 0] [] V D Q) ∧ (i6 < 4 → (yg_133 i1 (wr ((2 : Int) + i6)) V D ∧ RY d 62 64 [vr 405, vi i1, vi i2, vi i3, vi i4, vi (wr ((wr ((5 : Int) * i5)) + (yr_133 i1 (wr ((2 : Int) + i6)) V D))), vi (wr (i6 + 1)), vr 0, vr 0, vr 0] [] V D Q))) :
    RY d 62 64 [vr 405, vi i1, vi i2, vi i3, vi i4, vi i5, vi i6, vr 0, vr 0, vr 0] [] V D Q := yat (c := xk_62) (hd := [620064, 620103]) (dk := []) (dv := []) (nb := [620067]) rfl h
set_option maxRecDepth 20000 in
theorem u_62_103 {d : Nat} {i1 i2 i3 i4 i5 i6 i7 i8 : Int} {v9 : xV} {V : xF} {D : yD} {Q : xRes → xF → yD → Prop}
    (h : ((625 : Int) ≤ i8 → RY d 195 0 [vr 405, vi i1, vi i5, vi i5, vr 0, vr 0, vr 0, vr 0] [] V D (yback d 62 169 [vr 405, vi i1, vi i2, vi i3, vi i4, vi i5, vi i6, vi i7, vi i8, v9] [] Q)) ∧ (i8 < 625 → RY d 195 0 [vr 405, vi i1, vi i8, vi i5, vr 0, vr 0, vr 0, vr 0] [] V D (yback d 62 120 [vr 405, vi i1, vi i2, vi i3, vi i4, vi i5, vi i6, vi i7, vi i8, v9] [] Q))) :
    RY d 62 103 [vr 405, vi i1, vi i2, vi i3, vi i4, vi i5, vi i6, vi i7, vi i8, v9] [] V D Q := yat (c := xk_62) (hd := [620064, 620103]) (dk := []) (dv := []) (nb := [620108]) rfl h
set_option maxRecDepth 20000 in
theorem u_62_120 {d : Nat} {i1 i2 i3 i4 i5 i6 i7 i8 i_0 : Int} {v9 : xV} {V : xF} {D : yD} {Q : xRes → xF → yD → Prop}
    (h : RY d 135 0 [vr 405, vi i1] [] V D (yback d 62 127 [vr 405, vi i1, vi i2, vi i3, vi i4, vi i5, vi i6, vi i7, vi i8, vi i_0] [] Q)) :
    RY d 62 120 [vr 405, vi i1, vi i2, vi i3, vi i4, vi i5, vi i6, vi i7, vi i8, v9] [vi i_0] V D Q := yat (c := xk_62) (hd := [620064, 620103]) (dk := []) (dv := []) (nb := []) rfl h
set_option maxRecDepth 20000 in
theorem u_62_127 {d : Nat} {i1 i2 i3 i4 i5 i6 i7 i8 i9 i_0 : Int} {V : xF} {D : yD} {Q : xRes → xF → yD → Prop}
    (h : (i7 ≤ i9 → RY d 62 103 [vr 405, vi i1, vi i2, vi i3, vi i_0, vi i5, vi i6, vi i7, vi (wr (i8 + 1)), vi i9] [] V D Q) ∧ (i9 < i7 → RY d 196 0 [vr 405, vr 0, vr 0] [] V D (yback d 62 140 [vr 405, vi i1, vi i2, vi i3, vi i_0, vi i5, vi i6, vi i7, vi i8, vi i9] [] Q))) :
    RY d 62 127 [vr 405, vi i1, vi i2, vi i3, vi i4, vi i5, vi i6, vi i7, vi i8, vi i9] [vi i_0] V D Q := yat (c := xk_62) (hd := [620064, 620103]) (dk := []) (dv := []) (nb := [620133]) rfl h
set_option maxRecDepth 20000 in
theorem u_62_140 {d : Nat} {i1 i2 i3 i4 i5 i6 i7 i8 i9 i_0 : Int} {V : xF} {D : yD} {Q : xRes → xF → yD → Prop}
    (h : (i_0 ≠ 0 → RY d 62 103 [vr 405, vi i1, vi i2, vi i3, vi i4, vi i5, vi i8, vi i9, vi (wr (i8 + 1)), vi i9] [] V D Q) ∧ (i_0 = 0 → RY d 62 103 [vr 405, vi i1, vi i2, vi i3, vi i4, vi i5, vi i6, vi i7, vi (wr (i8 + 1)), vi i9] [] V D Q)) :
    RY d 62 140 [vr 405, vi i1, vi i2, vi i3, vi i4, vi i5, vi i6, vi i7, vi i8, vi i9] [vi i_0] V D Q := yat (c := xk_62) (hd := [620064, 620103]) (dk := []) (dv := []) (nb := [620140]) rfl h
set_option maxRecDepth 20000 in
theorem u_62_169 {d : Nat} {i1 i2 i3 i4 i5 i6 i7 i8 i_0 : Int} {v9 : xV} {V : xF} {D : yD} {Q : xRes → xF → yD → Prop}
    (h : (i3 = 0 → Q (.inl (some (vi i6))) V D) ∧ (i3 ≠ 0 → Q (.inl (some (vi i7))) V D)) :
    RY d 62 169 [vr 405, vi i1, vi i2, vi i3, vi i4, vi i5, vi i6, vi i7, vi i8, v9] [vi i_0] V D Q := yat (c := xk_62) (hd := [620064, 620103]) (dk := []) (dv := []) (nb := [620172]) rfl h
set_option maxRecDepth 20000 in
theorem u_63_0 {d : Nat} {i1 i2 : Int} {V : xF} {D : yD} {Q : xRes → xF → yD → Prop}
    (h : RY d 197 0 [vr 70, vi i1, vi i2, vr 0, vr 0] [] V D (yback d 63 8 [vr 70, vi i1, vi i2, vr 420, vr 0] [vi 0, vr 420] Q)) :
    RY d 63 0 [vr 70, vi i1, vi i2, vr 420, vr 0] [] V D Q := yat (c := xk_63) (hd := []) (dk := []) (dv := []) (nb := []) rfl h
set_option maxRecDepth 20000 in
theorem u_63_8 {d : Nat} {i1 i2 i_1 i_2 : Int} {V : xF} {D : yD} {Q : xRes → xF → yD → Prop}
    (h : ((0 : Int) ≤ i_1 ∧ i_1 < (1 : Int)) ∧ (∀ D1 : yD, D1 = (up2 D.1 420 i_1.toNat i_2, D.2) → Q (.inl (some (vi 0))) V D1)) :
    RY d 63 8 [vr 70, vi i1, vi i2, vr 420, vr 0] [vi i_2, vi i_1, vr 420] V D Q := yat (c := xk_63) (hd := []) (dk := []) (dv := [630009]) (nb := []) rfl h
set_option maxRecDepth 20000 in
theorem u_63_13 {d : Nat} {i1 i2 : Int} {V : xF} {D : yD} {Q : xRes → xF → yD → Prop}
    (h : Q (.inl (some (vi 1))) V D) :
    RY d 63 13 [vr 70, vi i1, vi i2, vr 420, vr 0] [vr 0] V D Q := yat (c := xk_63) (hd := []) (dk := []) (dv := []) (nb := []) rfl h
set_option maxRecDepth 20000 in
theorem u_64_0 {d : Nat} {i1 i2 : Int} {V : xF} {D : yD} {Q : xRes → xF → yD → Prop}
    (h : yg_132 i1 V D ∧ (((yr_132 i1 V D) = 0 → ∀ V1 : xF, V1 = up2 V 405 0 1 → (((V1 405 0) ≤ 0 → RY d 64 41 [vr 405, vi i1, vi i2, vi (xshl 1 i1), vi 0, vr 0, vr 0, vr 0] [] V1 D Q) ∧ ((0 : Int) < (V1 405 0) → Q (.inl (some (vi 0))) V1 D))) ∧ ((yr_132 i1 V D) ≠ 0 → (yg_132 i2 V D ∧ (((yr_132 i2 V D) ≠ 0 → ∀ V2 : xF, V2 = up2 V 405 0 0 → (((V2 405 0) ≤ 0 → RY d 64 41 [vr 405, vi i1, vi i2, vi (xshl 1 i1), vi 0, vr 0, vr 0, vr 0] [] V2 D Q) ∧ ((0 : Int) < (V2 405 0) → Q (.inl (some (vi 0))) V2 D))) ∧ ((yr_132 i2 V D) = 0 → ∀ V3 : xF, V3 = up2 V 405 0 1 → (((V3 405 0) ≤ 0 → RY d 64 41 [vr 405, vi i1, vi i2, vi (xshl 1 i1), vi 0, vr 0, vr 0, vr 0] [] V3 D Q) ∧ ((0 : Int) < (V3 405 0) → Q (.inl (some (vi 0))) V3 D)))))))) :
    RY d 64 0 [vr 405, vi i1, vi i2, vr 0, vr 0, vr 0, vr 0, vr 0] [] V D Q := yat (c := xk_64) (hd := [640041, 640064, 640078]) (dk := []) (dv := []) (nb := [640006, 640014, 640029]) rfl h
set_option maxRecDepth 20000 in
theorem u_64_41 {d : Nat} {i1 i2 i3 i4 : Int} {v5 v6 v7 : xV} {V : xF} {D : yD} {Q : xRes → xF → yD → Prop}
    (h : ((5 : Int) ≤ i4 → Q (.inl (some (vi ((-1))))) V D) ∧ (i4 < 5 → (((yr_198 i3 i2 V D) = 0 → RY d 64 64 [vr 405, vi i1, vi i2, vi i3, vi i4, vi i3, vi 0, v7] [] V D Q) ∧ ((yr_198 i3 i2 V D) ≠ 0 → Q (.inl (some (vi i4))) V D)))) :
    RY d 64 41 [vr 405, vi i1, vi i2, vi i3, vi i4, v5, v6, v7] [] V D Q := yat (c := xk_64) (hd := [640041, 640064, 640078]) (dk := []) (dv := []) (nb := [640044, 640052]) rfl h
set_option maxRecDepth 20000 in
theorem u_64_64 {d : Nat} {i1 i2 i3 i4 i5 i6 : Int} {v7 : xV} {V : xF} {D : yD} {Q : xRes → xF → yD → Prop}
    (h : ((V 406 3) ≤ i6 → RY d 64 41 [vr 405, vi i1, vi i2, vi i5, vi (wr (i4 + 1)), vi i5, vi i6, v7] [] V D Q) ∧ (i6 < (V 406 3) → RY d 64 78 [vr 405, vi i1, vi i2, vi i3, vi i4, vi i5, vi i6, vi 0] [] V D Q)) :
    RY d 64 64 [vr 405, vi i1, vi i2, vi i3, vi i4, vi i5, vi i6, v7] [] V D Q := yat (c := xk_64) (hd := [640041, 640064, 640078]) (dk := []) (dv := []) (nb := [640072]) rfl h
set_option maxRecDepth 20000 in
theorem u_64_78 {d : Nat} {i1 i2 i3 i4 i5 i6 i7 : Int} {V : xF} {D : yD} {Q : xRes → xF → yD → Prop}
    (h : ((V 406 3) ≤ i7 → RY d 64 64 [vr 405, vi i1, vi i2, vi i3, vi i4, vi i5, vi (wr (i6 + 1)), vi i7] [] V D Q) ∧ (i7 < (V 406 3) → (((yr_198 i3 i6 V D) = 0 → RY d 64 78 [vr 405, vi i1, vi i2, vi i3, vi i4, vi i5, vi i6, vi (wr (i7 + 1))] [] V D Q) ∧ ((yr_198 i3 i6 V D) ≠ 0 → (yg_152 i6 i7 V D ∧ (((yr_152 i6 i7 V D) = 0 → RY d 64 78 [vr 405, vi i1, vi i2, vi i3, vi i4, vi i5, vi i6, vi (wr (i7 + 1))] [] V D Q) ∧ ((yr_152 i6 i7 V D) ≠ 0 → RY d 64 78 [vr 405, vi i1, vi i2, vi i3, vi i4, vi (xor_ i5 (xshl 1 i7)), vi i6, vi (wr (i7 + 1))] [] V D Q))))))) :
    RY d 64 78 [vr 405, vi i1, vi i2, vi i3, vi i4, vi i5, vi i6, vi i7] [] V D Q := yat (c := xk_64) (hd := [640041, 640064, 640078]) (dk := []) (dv := []) (nb := [640086, 640095, 640106]) rfl h
set_option maxRecDepth 20000 in
theorem u_65_0 {d : Nat} {i1 : Int} {V : xF} {D : yD} {Q : xRes → xF → yD → Prop}
    (h : RY d 199 0 [vr 70, vi i1] [] V D (yback d 65 7 [vr 70, vi i1, vr 420, vr 0] [vi 0, vr 420] Q)) :
    RY d 65 0 [vr 70, vi i1, vr 420, vr 0] [] V D Q := yat (c := xk_65) (hd := []) (dk := []) (dv := []) (nb := []) rfl h
set_option maxRecDepth 20000 in
theorem u_65_7 {d : Nat} {i1 i_1 i_2 : Int} {V : xF} {D : yD} {Q : xRes → xF → yD → Prop}
    (h : ((0 : Int) ≤ i_1 ∧ i_1 < (1 : Int)) ∧ (∀ D1 : yD, D1 = (up2 D.1 420 i_1.toNat i_2, D.2) → Q (.inl (some (vi 0))) V D1)) :
    RY d 65 7 [vr 70, vi i1, vr 420, vr 0] [vi i_2, vi i_1, vr 420] V D Q := yat (c := xk_65) (hd := []) (dk := []) (dv := [650008]) (nb := []) rfl h
set_option maxRecDepth 20000 in
theorem u_65_12 {d : Nat} {i1 : Int} {V : xF} {D : yD} {Q : xRes → xF → yD → Prop}
    (h : Q (.inl (some (vi 1))) V D) :
    RY d 65 12 [vr 70, vi i1, vr 420, vr 0] [vr 0] V D Q := yat (c := xk_65) (hd := []) (dk := []) (dv := []) (nb := []) rfl h
set_option maxRecDepth 20000 in
theorem u_66_0 {d : Nat} {i1 : Int} {V : xF} {D : yD} {Q : xRes → xF → yD → Prop}
    (h : yg_132 i1 V D ∧ (((yr_132 i1 V D) ≠ 0 → ∀ V1 : xF, V1 = up2 V 405 0 0 → (((V1 405 0) ≤ 0 → RY d 200 0 [vr 405, vi i1, vi ((-1)), vr 0, vr 0, vr 0, vr 0] [] V1 D (yback d 66 34 [vr 405, vi i1] [] Q)) ∧ ((0 : Int) < (V1 405 0) → Q (.inl (some (vi 0))) V1 D))) ∧ ((yr_132 i1 V D) = 0 → ∀ V2 : xF, V2 = up2 V 405 0 1 → (((V2 405 0) ≤ 0 → RY d 200 0 [vr 405, vi i1, vi ((-1)), vr 0, vr 0, vr 0, vr 0] [] V2 D (yback d 66 34 [vr 405, vi i1] [] Q)) ∧ ((0 : Int) < (V2 405 0) → Q (.inl (some (vi 0))) V2 D))))) :
    RY d 66 0 [vr 405, vi i1] [] V D Q := yat (c := xk_66) (hd := []) (dk := []) (dv := []) (nb := [660006, 660021]) rfl h
set_option maxRecDepth 20000 in
theorem u_66_34 {d : Nat} {i1 i_0 : Int} {V : xF} {D : yD} {Q : xRes → xF → yD → Prop}
    (h : Q (.inl (some (vi i_0))) V D) :
    RY d 66 34 [vr 405, vi i1] [vi i_0] V D Q := yat (c := xk_66) (hd := []) (dk := []) (dv := []) (nb := []) rfl h
set_option maxRecDepth 20000 in
theorem u_67_0 {d : Nat} {V : xF} {D : yD} {Q : xRes → xF → yD → Prop}
    (h : RY d 67 4 [vr 70, vi 0, vi 0, vr 0, vr 0] [] V D Q) :
    RY d 67 0 [vr 70, vr 0, vr 0, vr 0, vr 0] [] V D Q := yat (c := xk_67) (hd := [670004, 670017]) (dk := []) (dv := []) (nb := []) rfl h
set_option maxRecDepth 20000 in
theorem u_67_4 {d : Nat} {i1 i2 : Int} {v3 v4 : xV} {V : xF} {D : yD} {Q : xRes → xF → yD → Prop}
    (h : ((V 81 0) ≤ i2 → Q (.inl (some (vi i1))) V D) ∧ (i2 < (V 81 0) → RY d 67 17 [vr 70, vi i1, vi i2, vi 0, v4] [] V D Q)) :
    RY d 67 4 [vr 70, vi i1, vi i2, v3, v4] [] V D Q := yat (c := xk_67) (hd := [670004, 670017]) (dk := []) (dv := []) (nb := [670012]) rfl h
set_option maxRecDepth 20000 in
theorem u_67_17 {d : Nat} {i1 i2 i3 : Int} {v4 : xV} {V : xF} {D : yD} {Q : xRes → xF → yD → Prop}
    (h : ((V 81 0) ≤ i3 → RY d 67 4 [vr 70, vi i1, vi (wr (i2 + 1)), vi i3, v4] [] V D Q) ∧ (i3 < (V 81 0) → RY d 201 0 [vr 81, vi i3, vi ((-1)), vr 0, vr 0, vr 0] [] V D (yback d 67 37 [vr 70, vi i1, vi i2, vi i3, v4] [] Q))) :
    RY d 67 17 [vr 70, vi i1, vi i2, vi i3, v4] [] V D Q := yat (c := xk_67) (hd := [670004, 670017]) (dk := []) (dv := []) (nb := [670025]) rfl h
set_option maxRecDepth 20000 in
theorem u_67_37 {d : Nat} {i1 i2 i3 i_0 : Int} {v4 : xV} {V : xF} {D : yD} {Q : xRes → xF → yD → Prop}
    (h : (i3 = i2 → RY d 67 17 [vr 70, vi i1, vi i2, vi (wr (i3 + 1)), vi (xand i_0 (xxor (xshl 1 i2) ((-1))))] [] V D Q) ∧ (i3 ≠ i2 → RY d 201 0 [vr 81, vi i3, vi i2, vr 0, vr 0, vr 0] [] V D (yback d 67 59 [vr 70, vi i1, vi i2, vi i3, vi (xand i_0 (xxor (xshl 1 i2) ((-1))))] [] Q))) :
    RY d 67 37 [vr 70, vi i1, vi i2, vi i3, v4] [vi i_0] V D Q := yat (c := xk_67) (hd := [670004, 670017]) (dk := []) (dv := []) (nb := [670047]) rfl h
set_option maxRecDepth 20000 in
theorem u_67_59 {d : Nat} {i1 i2 i3 i4 i_0 : Int} {V : xF} {D : yD} {Q : xRes → xF → yD → Prop}
    (h : (i_0 = i4 → RY d 67 17 [vr 70, vi i1, vi i2, vi (wr (i3 + 1)), vi i4] [] V D Q) ∧ (i_0 ≠ i4 → RY d 67 17 [vr 70, vi (xor_ i1 (xshl 1 i2)), vi i2, vi (wr (i3 + 1)), vi i4] [] V D Q)) :
    RY d 67 59 [vr 70, vi i1, vi i2, vi i3, vi i4] [vi i_0] V D Q := yat (c := xk_67) (hd := [670004, 670017]) (dk := []) (dv := []) (nb := [670061]) rfl h
set_option maxRecDepth 20000 in
theorem u_68_0 {d : Nat} {V : xF} {D : yD} {Q : xRes → xF → yD → Prop}
    (h : ∀ V1 : xF, V1 = up2 V 405 0 0 → RY d 68 9 [vr 405, vi 0, vi 0, vr 0] [] V1 D Q) :
    RY d 68 0 [vr 405, vr 0, vr 0, vr 0] [] V D Q := yat (c := xk_68) (hd := [680009, 680021]) (dk := []) (dv := []) (nb := []) rfl h
set_option maxRecDepth 20000 in
theorem u_68_9 {d : Nat} {i1 i2 : Int} {v3 : xV} {V : xF} {D : yD} {Q : xRes → xF → yD → Prop}
    (h : ((V 406 3) ≤ i2 → Q (.inl (some (vi i1))) V D) ∧ (i2 < (V 406 3) → RY d 68 21 [vr 405, vi i1, vi i2, vi 0] [] V D Q)) :
    RY d 68 9 [vr 405, vi i1, vi i2, v3] [] V D Q := yat (c := xk_68) (hd := [680009, 680021]) (dk := []) (dv := []) (nb := [680016]) rfl h
set_option maxRecDepth 20000 in
theorem u_68_21 {d : Nat} {i1 i2 i3 : Int} {V : xF} {D : yD} {Q : xRes → xF → yD → Prop}
    (h : ((V 406 3) ≤ i3 → RY d 68 9 [vr 405, vi i1, vi (wr (i2 + 1)), vi i3] [] V D Q) ∧ (i3 < (V 406 3) → ((i3 = i2 → RY d 68 21 [vr 405, vi i1, vi i2, vi (wr (i3 + 1))] [] V D Q) ∧ (i3 ≠ i2 → RY d 200 0 [vr 405, vi i3, vi ((-1)), vr 0, vr 0, vr 0, vr 0] [] V D (yback d 68 42 [vr 405, vi i1, vi i2, vi i3] [] Q))))) :
    RY d 68 21 [vr 405, vi i1, vi i2, vi i3] [] V D Q := yat (c := xk_68) (hd := [680009, 680021]) (dk := []) (dv := []) (nb := [680028, 680033]) rfl h
set_option maxRecDepth 20000 in
theorem u_68_42 {d : Nat} {i1 i2 i3 i_0 : Int} {V : xF} {D : yD} {Q : xRes → xF → yD → Prop}
    (h : RY d 200 0 [vr 405, vi i3, vi i2, vr 0, vr 0, vr 0, vr 0] [] V D (yback d 68 54 [vr 405, vi i1, vi i2, vi i3] [vi (xand i_0 (xxor (xshl 1 i2) ((-1))))] Q)) :
    RY d 68 42 [vr 405, vi i1, vi i2, vi i3] [vi i_0] V D Q := yat (c := xk_68) (hd := [680009, 680021]) (dk := []) (dv := []) (nb := []) rfl h
set_option maxRecDepth 20000 in
theorem u_68_54 {d : Nat} {i1 i2 i3 i_0 i_1 : Int} {V : xF} {D : yD} {Q : xRes → xF → yD → Prop}
    (h : (i_0 = i_1 → RY d 68 21 [vr 405, vi i1, vi i2, vi (wr (i3 + 1))] [] V D Q) ∧ (i_0 ≠ i_1 → RY d 68 21 [vr 405, vi (xor_ i1 (xshl 1 i2)), vi i2, vi (wr (i3 + 1))] [] V D Q)) :
    RY d 68 54 [vr 405, vi i1, vi i2, vi i3] [vi i_1, vi i_0] V D Q := yat (c := xk_68) (hd := [680009, 680021]) (dk := []) (dv := []) (nb := [680054]) rfl h
set_option maxRecDepth 20000 in
theorem u_69_0 {d : Nat} {i1 : Int} {V : xF} {D : yD} {Q : xRes → xF → yD → Prop}
    (h : RY d 202 0 [vr 70, vi i1] [] V D (yback d 69 7 [vr 70, vi i1, vr 420, vr 0] [vi 0, vr 420] Q)) :
    RY d 69 0 [vr 70, vi i1, vr 420, vr 0] [] V D Q := yat (c := xk_69) (hd := []) (dk := []) (dv := []) (nb := []) rfl h
set_option maxRecDepth 20000 in
theorem u_69_7 {d : Nat} {i1 i_1 i_2 : Int} {V : xF} {D : yD} {Q : xRes → xF → yD → Prop}
    (h : ((0 : Int) ≤ i_1 ∧ i_1 < (1 : Int)) ∧ (∀ D1 : yD, D1 = (up2 D.1 420 i_1.toNat i_2, D.2) → Q (.inl (some (vi 0))) V D1)) :
    RY d 69 7 [vr 70, vi i1, vr 420, vr 0] [vi i_2, vi i_1, vr 420] V D Q := yat (c := xk_69) (hd := []) (dk := []) (dv := [690008]) (nb := []) rfl h
set_option maxRecDepth 20000 in
theorem u_69_12 {d : Nat} {i1 : Int} {V : xF} {D : yD} {Q : xRes → xF → yD → Prop}
    (h : Q (.inl (some (vi 1))) V D) :
    RY d 69 12 [vr 70, vi i1, vr 420, vr 0] [vr 0] V D Q := yat (c := xk_69) (hd := []) (dk := []) (dv := []) (nb := []) rfl h
set_option maxRecDepth 20000 in
theorem u_70_0 {d : Nat} {i1 : Int} {V : xF} {D : yD} {Q : xRes → xF → yD → Prop}
    (h : (i1 = ((-1)) → ∀ V1 : xF, V1 = up2 V 405 0 0 → (((V1 405 0) ≤ 0 → RY d 203 0 [vr 405, vr 0, vr 0, vr 0, vr 0, vr 0] [] V1 D (yback d 70 35 [vr 405, vi i1, vr 0, vr 0, vr 0, vr 0] [] Q)) ∧ ((0 : Int) < (V1 405 0) → Q (.inl (some (vi 0))) V1 D))) ∧ (i1 ≠ ((-1)) → (yg_142 i1 V D ∧ (((yr_142 i1 V D) ≠ 0 → ∀ V2 : xF, V2 = up2 V 405 0 0 → (((V2 405 0) ≤ 0 → RY d 203 0 [vr 405, vr 0, vr 0, vr 0, vr 0, vr 0] [] V2 D (yback d 70 35 [vr 405, vi i1, vr 0, vr 0, vr 0, vr 0] [] Q)) ∧ ((0 : Int) < (V2 405 0) → Q (.inl (some (vi 0))) V2 D))) ∧ ((yr_142 i1 V D) = 0 → ∀ V3 : xF, V3 = up2 V 405 0 1 → (((V3 405 0) ≤ 0 → RY d 203 0 [vr 405, vr 0, vr 0, vr 0, vr 0, vr 0] [] V3 D (yback d 70 35 [vr 405, vi i1, vr 0, vr 0, vr 0, vr 0] [] Q)) ∧ ((0 : Int) < (V3 405 0) → Q (.inl (some (vi 0))) V3 D))))))) :
    RY d 70 0 [vr 405, vi i1, vr 0, vr 0, vr 0, vr 0] [] V D Q := yat (c := xk_70) (hd := [700054, 700104]) (dk := []) (dv := []) (nb := [700003, 700011, 700026]) rfl h
set_option maxRecDepth 20000 in
theorem u_70_35 {d : Nat} {i1 : Int} {V : xF} {D : yD} {Q : xRes → xF → yD → Prop}
    (h : (i1 ≠ ((-1)) → RY d 70 54 [vr 405, vi i1, vi 0, vi ((-1)), vi 0, vr 0] [] V D Q) ∧ (i1 = ((-1)) → Q (.inl (some (vi (V 418 0)))) V D)) :
    RY d 70 35 [vr 405, vi i1, vr 0, vr 0, vr 0, vr 0] [] V D Q := yat (c := xk_70) (hd := [700054, 700104]) (dk := []) (dv := []) (nb := [700037]) rfl h
set_option maxRecDepth 20000 in
theorem u_70_54 {d : Nat} {i1 i2 i3 i4 : Int} {v5 : xV} {V : xF} {D : yD} {Q : xRes → xF → yD → Prop}
    (h : (i1 < i4 → Q (.inl (some (vi i3))) V D) ∧ (i4 ≤ i1 → (((0 : Int) ≤ wr ((wr ((32 : Int) * (wr (i4 + 1)))) + i2) ∧ wr ((wr ((32 : Int) * (wr (i4 + 1)))) + i2) < (192 : Int)) ∧ ((0 : Int) ≤ wr ((wr ((32 : Int) * i4)) + i2) ∧ wr ((wr ((32 : Int) * i4)) + i2) < (192 : Int)) ∧ (((V 418 ((wr ((wr ((32 : Int) * (wr (i4 + 1)))) + i2)).toNat)) ≠ (V 418 ((wr ((wr ((32 : Int) * i4)) + i2)).toNat)) → RY d 70 104 [vr 405, vi i1, vi i2, vi ((-1)), vi i4, vi (wr ((V 406 3) - 1))] [] V D Q) ∧ ((V 418 ((wr ((wr ((32 : Int) * (wr (i4 + 1)))) + i2)).toNat)) = (V 418 ((wr ((wr ((32 : Int) * i4)) + i2)).toNat)) → RY d 70 54 [vr 405, vi i1, vi i2, vi ((-1)), vi (wr (i4 + 1)), v5] [] V D Q))))) :
    RY d 70 54 [vr 405, vi i1, vi i2, vi i3, vi i4, v5] [] V D Q := yat (c := xk_70) (hd := [700054, 700104]) (dk := []) (dv := [700075, 700087]) (nb := [700057, 700088]) rfl h
set_option maxRecDepth 20000 in
theorem u_70_104 {d : Nat} {i1 i2 i3 i4 i5 : Int} {V : xF} {D : yD} {Q : xRes → xF → yD → Prop}
    (h : (i5 < 0 → RY d 70 54 [vr 405, vi i1, vi (xor_ i2 (xshl 1 i3)), vi i3, vi (wr (i4 + 1)), vi i5] [] V D Q) ∧ ((0 : Int) ≤ i5 → (((0 : Int) ≤ i4 ∧ i4 < (5 : Int)) ∧ (((yr_198 (xand (V 419 i4.toNat) (xxor i2 ((-1)))) i5 V D) = 0 → RY d 70 104 [vr 405, vi i1, vi i2, vi i3, vi i4, vi (wr (i5 + (-1)))] [] V D Q) ∧ ((yr_198 (xand (V 419 i4.toNat) (xxor i2 ((-1)))) i5 V D) ≠ 0 → (yg_133 i5 6 V D ∧ ((0 : Int) ≤ wr ((wr ((32 : Int) * (wr (i4 + 1)))) + (xor_ i2 (xshl 1 i5))) ∧ wr ((wr ((32 : Int) * (wr (i4 + 1)))) + (xor_ i2 (xshl 1 i5))) < (192 : Int)) ∧ ((0 : Int) ≤ wr ((wr ((32 : Int) * i4)) + i2) ∧ wr ((wr ((32 : Int) * i4)) + i2) < (192 : Int)) ∧ (((wr ((yr_133 i5 6 V D) + (V 418 ((wr ((wr ((32 : Int) * (wr (i4 + 1)))) + (xor_ i2 (xshl 1 i5)))).toNat)))) ≠ (V 418 ((wr ((wr ((32 : Int) * i4)) + i2)).toNat)) → RY d 70 104 [vr 405, vi i1, vi i2, vi i3, vi i4, vi (wr (i5 + (-1)))] [] V D Q) ∧ ((wr ((yr_133 i5 6 V D) + (V 418 ((wr ((wr ((32 : Int) * (wr (i4 + 1)))) + (xor_ i2 (xshl 1 i5)))).toNat)))) = (V 418 ((wr ((wr ((32 : Int) * i4)) + i2)).toNat)) → RY d 70 104 [vr 405, vi i1, vi i2, vi i5, vi i4, vi (wr (i5 + (-1)))] [] V D Q)))))))) :
    RY d 70 104 [vr 405, vi i1, vi i2, vi i3, vi i4, vi i5] [] V D Q := yat (c := xk_70) (hd := [700054, 700104]) (dk := []) (dv := [700115, 700154, 700167]) (nb := [700106, 700125, 700168]) rfl h
set_option maxRecDepth 20000 in
theorem u_71_0 {d : Nat} {V : xF} {D : yD} {Q : xRes → xF → yD → Prop}
    (h : RY d 204 0 [vr 390, vr 81, vr 0, vr 0] [] V D (yback d 71 11 [vr 70, vr 0, vr 0] [] Q)) :
    RY d 71 0 [vr 70, vr 0, vr 0] [] V D Q := yat (c := xk_71) (hd := [710015]) (dk := []) (dv := []) (nb := []) rfl h
set_option maxRecDepth 20000 in
theorem u_71_11 {d : Nat} {V : xF} {D : yD} {Q : xRes → xF → yD → Prop}
    (h : RY d 71 15 [vr 70, vi 0, vi 0] [] V D Q) :
    RY d 71 11 [vr 70, vr 0, vr 0] [] V D Q := yat (c := xk_71) (hd := [710015]) (dk := []) (dv := []) (nb := []) rfl h
set_option maxRecDepth 20000 in
theorem u_71_15 {d : Nat} {i1 i2 : Int} {V : xF} {D : yD} {Q : xRes → xF → yD → Prop}
    (h : ((V 81 6) ≤ i2 → Q (.inl (some (vi i1))) V D) ∧ (i2 < (V 81 6) → RY d 205 0 [vr 390, vr 81, vi i2, vr 0, vr 0, vr 0] [] V D (yback d 71 38 [vr 70, vi i1, vi i2] [] Q))) :
    RY d 71 15 [vr 70, vi i1, vi i2] [] V D Q := yat (c := xk_71) (hd := [710015]) (dk := []) (dv := []) (nb := [710023]) rfl h
set_option maxRecDepth 20000 in
theorem u_71_38 {d : Nat} {i1 i2 i_0 : Int} {V : xF} {D : yD} {Q : xRes → xF → yD → Prop}
    (h : (i_0 = 0 → RY d 71 15 [vr 70, vi i1, vi (wr (i2 + 1))] [] V D Q) ∧ (i_0 ≠ 0 → RY d 71 15 [vr 70, vi (xor_ i1 (xshl 1 i2)), vi (wr (i2 + 1))] [] V D Q)) :
    RY d 71 38 [vr 70, vi i1, vi i2] [vi i_0] V D Q := yat (c := xk_71) (hd := [710015]) (dk := []) (dv := []) (nb := [710038]) rfl h
set_option maxRecDepth 20000 in
theorem u_72_0 {d : Nat} {V : xF} {D : yD} {Q : xRes → xF → yD → Prop}
    (h : ∀ V1 : xF, V1 = up2 V 405 0 0 → RY d 72 9 [vr 405, vi 0, vi 0, vr 0, vr 0, vr 0] [] V1 D Q) :
    RY d 72 0 [vr 405, vr 0, vr 0, vr 0, vr 0, vr 0] [] V D Q := yat (c := xk_72) (hd := [720009]) (dk := []) (dv := []) (nb := []) rfl h
set_option maxRecDepth 20000 in
theorem u_72_9 {d : Nat} {i1 i2 : Int} {v3 v4 v5 : xV} {V : xF} {D : yD} {Q : xRes → xF → yD → Prop}
    (h : ((V 406 4) ≤ i2 → Q (.inl (some (vi i1))) V D) ∧ (i2 < (V 406 4) → RY d 144 0 [vr 405, vi i2, vi 0, vr 0, vr 0, vr 0] [] V D (yback d 72 25 [vr 405, vi i1, vi i2, v3, v4, v5] [] Q))) :
    RY d 72 9 [vr 405, vi i1, vi i2, v3, v4, v5] [] V D Q := yat (c := xk_72) (hd := [720009]) (dk := []) (dv := []) (nb := [720016]) rfl h
set_option maxRecDepth 20000 in
theorem u_72_25 {d : Nat} {i1 i2 i_0 : Int} {v3 v4 v5 : xV} {V : xF} {D : yD} {Q : xRes → xF → yD → Prop}
    (h : yg_143 i2 2 V D ∧ ((i_0 = ((-1)) → RY d 72 9 [vr 405, vi i1, vi (wr (i2 + 1)), vi i_0, vi (yr_143 i2 2 V D), v5] [] V D Q) ∧ (i_0 ≠ ((-1)) → ((i_0 ≠ (yr_143 i2 2 V D) → RY d 147 0 [vr 405, vi i2, vi i_0] [] V D (yback d 72 54 [vr 405, vi i1, vi i2, vi i_0, vi (yr_143 i2 2 V D), v5] [] Q)) ∧ (i_0 = (yr_143 i2 2 V D) → RY d 72 9 [vr 405, vi i1, vi (wr (i2 + 1)), vi i_0, vi (yr_143 i2 2 V D), v5] [] V D Q))))) :
    RY d 72 25 [vr 405, vi i1, vi i2, v3, v4, v5] [vi i_0] V D Q := yat (c := xk_72) (hd := [720009]) (dk := []) (dv := []) (nb := [720036, 720042]) rfl h
set_option maxRecDepth 20000 in
theorem u_72_54 {d : Nat} {i1 i2 i3 i4 i_0 : Int} {v5 : xV} {V : xF} {D : yD} {Q : xRes → xF → yD → Prop}
    (h : (i4 ≠ ((-1)) → RY d 147 0 [vr 405, vi i2, vi i4] [] V D (yback d 72 87 [vr 405, vi i1, vi i2, vi i3, vi i4, vi i_0] [vi i_0, vi i1] Q)) ∧ (i4 = ((-1)) → ((i_0 < 0 → RY d 72 9 [vr 405, vi (xor_ i1 0), vi (wr (i2 + 1)), vi i3, vi i4, vi i_0] [] V D Q) ∧ ((0 : Int) ≤ i_0 → RY d 72 9 [vr 405, vi (xor_ i1 (xshl 1 i2)), vi (wr (i2 + 1)), vi i3, vi i4, vi i_0] [] V D Q)))) :
    RY d 72 54 [vr 405, vi i1, vi i2, vi i3, vi i4, v5] [vi i_0] V D Q := yat (c := xk_72) (hd := [720009]) (dk := []) (dv := []) (nb := [720060, 720065]) rfl h
set_option maxRecDepth 20000 in
theorem u_72_87 {d : Nat} {i1 i2 i3 i4 i5 i_0 i_1 i_2 : Int} {V : xF} {D : yD} {Q : xRes → xF → yD → Prop}
    (h : (i_1 ≤ i_2 → RY d 72 9 [vr 405, vi (xor_ i_0 0), vi (wr (i2 + 1)), vi i3, vi i4, vi i5] [] V D Q) ∧ (i_2 < i_1 → RY d 72 9 [vr 405, vi (xor_ i_0 (xshl 1 i2)), vi (wr (i2 + 1)), vi i3, vi i4, vi i5] [] V D Q)) :
    RY d 72 87 [vr 405, vi i1, vi i2, vi i3, vi i4, vi i5] [vi i_2, vi i_1, vi i_0] V D Q := yat (c := xk_72) (hd := [720009]) (dk := []) (dv := []) (nb := [720087]) rfl h
set_option maxRecDepth 20000 in
theorem u_73_0 {d : Nat} {i1 i2 : Int} {V : xF} {D : yD} {Q : xRes → xF → yD → Prop}
    (h : RY d 206 0 [vr 70, vi i1, vi i2] [] V D (yback d 73 8 [vr 70, vi i1, vi i2, vr 420, vr 0] [vi 0, vr 420] Q)) :
    RY d 73 0 [vr 70, vi i1, vi i2, vr 420, vr 0] [] V D Q := yat (c := xk_73) (hd := []) (dk := []) (dv := []) (nb := []) rfl h
set_option maxRecDepth 20000 in
theorem u_73_8 {d : Nat} {i1 i2 i_1 i_2 : Int} {V : xF} {D : yD} {Q : xRes → xF → yD → Prop}
    (h : ((0 : Int) ≤ i_1 ∧ i_1 < (1 : Int)) ∧ (∀ D1 : yD, D1 = (up2 D.1 420 i_1.toNat i_2, D.2) → Q (.inl (some (vi 0))) V D1)) :
    RY d 73 8 [vr 70, vi i1, vi i2, vr 420, vr 0] [vi i_2, vi i_1, vr 420] V D Q := yat (c := xk_73) (hd := []) (dk := []) (dv := [730009]) (nb := []) rfl h
set_option maxRecDepth 20000 in
theorem u_73_13 {d : Nat} {i1 i2 : Int} {V : xF} {D : yD} {Q : xRes → xF → yD → Prop}
    (h : Q (.inl (some (vi 1))) V D) :
    RY d 73 13 [vr 70, vi i1, vi i2, vr 420, vr 0] [vr 0] V D Q := yat (c := xk_73) (hd := []) (dk := []) (dv := []) (nb := []) rfl h
set_option maxRecDepth 20000 in
theorem u_73_17 {d : Nat} {i1 i2 : Int} {V : xF} {D : yD} {Q : xRes → xF → yD → Prop}
    (h : Q (.inl (some (vi 2))) V D) :
    RY d 73 17 [vr 70, vi i1, vi i2, vr 420, vr 0] [vr 0] V D Q := yat (c := xk_73) (hd := []) (dk := []) (dv := []) (nb := []) rfl h
set_option maxRecDepth 20000 in
theorem u_74_0 {d : Nat} {i1 i2 : Int} {V : xF} {D : yD} {Q : xRes → xF → yD → Prop}
    (h : yg_132 i1 V D ∧ (((yr_132 i1 V D) ≠ 0 → (((yr_124 i2 0 99 V D) ≠ 0 → ∀ V1 : xF, V1 = up2 V 405 0 0 → (((V1 405 0) ≤ 0 → RY d 207 0 [vr 405, vi i1, vi i2, vr 0, vr 0, vr 0] [] V1 D (yback d 74 48 [vr 405, vi i1, vi i2] [] Q)) ∧ ((0 : Int) < (V1 405 0) → Q (.inl (some (vi 0))) V1 D))) ∧ ((yr_124 i2 0 99 V D) = 0 → ∀ V2 : xF, V2 = up2 V 405 0 2 → (((V2 405 0) ≤ 0 → RY d 207 0 [vr 405, vi i1, vi i2, vr 0, vr 0, vr 0] [] V2 D (yback d 74 48 [vr 405, vi i1, vi i2] [] Q)) ∧ ((0 : Int) < (V2 405 0) → Q (.inl (some (vi 0))) V2 D))))) ∧ ((yr_132 i1 V D) = 0 → ∀ V3 : xF, V3 = up2 V 405 0 1 → (((V3 405 0) ≤ 0 → RY d 207 0 [vr 405, vi i1, vi i2, vr 0, vr 0, vr 0] [] V3 D (yback d 74 48 [vr 405, vi i1, vi i2] [] Q)) ∧ ((0 : Int) < (V3 405 0) → Q (.inl (some (vi 0))) V3 D))))) :
    RY d 74 0 [vr 405, vi i1, vi i2] [] V D Q := yat (c := xk_74) (hd := []) (dk := []) (dv := []) (nb := [740006, 740020, 740035]) rfl h
set_option maxRecDepth 20000 in
theorem u_74_48 {d : Nat} {i1 i2 i_0 : Int} {V : xF} {D : yD} {Q : xRes → xF → yD → Prop}
    (h : Q (.inl (some (vi i_0))) V D) :
    RY d 74 48 [vr 405, vi i1, vi i2] [vi i_0] V D Q := yat (c := xk_74) (hd := []) (dk := []) (dv := []) (nb := []) rfl h
set_option maxRecDepth 20000 in
theorem u_75_0 {d : Nat} {i1 i2 i3 : Int} {V : xF} {D : yD} {Q : xRes → xF → yD → Prop}
    (h : RY d 208 0 [vr 70, vi i1, vi i2, vi i3] [] V D (yback d 75 10 [vr 70, vi i1, vi i2, vi i3, vr 420, vr 0] [vi 0, vr 420] Q)) :
    RY d 75 0 [vr 70, vi i1, vi i2, vi i3, vr 420, vr 0] [] V D Q := yat (c := xk_75) (hd := []) (dk := []) (dv := []) (nb := []) rfl h
set_option maxRecDepth 20000 in
theorem u_75_10 {d : Nat} {i1 i2 i3 i_1 i_2 : Int} {V : xF} {D : yD} {Q : xRes → xF → yD → Prop}
    (h : ((0 : Int) ≤ i_1 ∧ i_1 < (1 : Int)) ∧ (∀ D1 : yD, D1 = (up2 D.1 420 i_1.toNat i_2, D.2) → Q (.inl (some (vi 0))) V D1)) :
    RY d 75 10 [vr 70, vi i1, vi i2, vi i3, vr 420, vr 0] [vi i_2, vi i_1, vr 420] V D Q := yat (c := xk_75) (hd := []) (dk := []) (dv := [750011]) (nb := []) rfl h
set_option maxRecDepth 20000 in
theorem u_75_15 {d : Nat} {i1 i2 i3 : Int} {V : xF} {D : yD} {Q : xRes → xF → yD → Prop}
    (h : Q (.inl (some (vi 1))) V D) :
    RY d 75 15 [vr 70, vi i1, vi i2, vi i3, vr 420, vr 0] [vr 0] V D Q := yat (c := xk_75) (hd := []) (dk := []) (dv := []) (nb := []) rfl h
set_option maxRecDepth 20000 in
theorem u_75_19 {d : Nat} {i1 i2 i3 : Int} {V : xF} {D : yD} {Q : xRes → xF → yD → Prop}
    (h : Q (.inl (some (vi 2))) V D) :
    RY d 75 19 [vr 70, vi i1, vi i2, vi i3, vr 420, vr 0] [vr 0] V D Q := yat (c := xk_75) (hd := []) (dk := []) (dv := []) (nb := []) rfl h
set_option maxRecDepth 20000 in
theorem u_76_0 {d : Nat} {i1 i2 i3 : Int} {V : xF} {D : yD} {Q : xRes → xF → yD → Prop}
    (h : yg_142 i1 V D ∧ (((yr_142 i1 V D) = 0 → ∀ V1 : xF, V1 = up2 V 405 0 1 → (((V1 405 0) ≤ 0 → RY d 76 57 [vr 405, vi i1, vi i2, vi i3, vi 0, vi 0, vr 0, vr 0] [] V1 D Q) ∧ ((0 : Int) < (V1 405 0) → Q (.inl (some (vi 0))) V1 D))) ∧ ((yr_142 i1 V D) ≠ 0 → (yg_142 i2 V D ∧ (((yr_142 i2 V D) = 0 → ∀ V2 : xF, V2 = up2 V 405 0 1 → (((V2 405 0) ≤ 0 → RY d 76 57 [vr 405, vi i1, vi i2, vi i3, vi 0, vi 0, vr 0, vr 0] [] V2 D Q) ∧ ((0 : Int) < (V2 405 0) → Q (.inl (some (vi 0))) V2 D))) ∧ ((yr_142 i2 V D) ≠ 0 → (yg_132 i3 V D ∧ (((yr_132 i3 V D) ≠ 0 → ((i1 ≠ i2 → ∀ V3 : xF, V3 = up2 V 405 0 0 → (((V3 405 0) ≤ 0 → RY d 76 57 [vr 405, vi i1, vi i2, vi i3, vi 0, vi 0, vr 0, vr 0] [] V3 D Q) ∧ ((0 : Int) < (V3 405 0) → Q (.inl (some (vi 0))) V3 D))) ∧ (i1 = i2 → ∀ V4 : xF, V4 = up2 V 405 0 2 → (((V4 405 0) ≤ 0 → RY d 76 57 [vr 405, vi i1, vi i2, vi i3, vi 0, vi 0, vr 0, vr 0] [] V4 D Q) ∧ ((0 : Int) < (V4 405 0) → Q (.inl (some (vi 0))) V4 D))))) ∧ ((yr_132 i3 V D) = 0 → ∀ V5 : xF, V5 = up2 V 405 0 1 → (((V5 405 0) ≤ 0 → RY d 76 57 [vr 405, vi i1, vi i2, vi i3, vi 0, vi 0, vr 0, vr 0] [] V5 D Q) ∧ ((0 : Int) < (V5 405 0) → Q (.inl (some (vi 0))) V5 D))))))))))) :
    RY d 76 0 [vr 405, vi i1, vi i2, vi i3, vr 0, vr 0, vr 0, vr 0] [] V D Q := yat (c := xk_76) (hd := [760057]) (dk := []) (dv := []) (nb := [760006, 760014, 760022, 760031, 760046]) rfl h
set_option maxRecDepth 20000 in
theorem u_76_57 {d : Nat} {i1 i2 i3 i4 i5 : Int} {v6 v7 : xV} {V : xF} {D : yD} {Q : xRes → xF → yD → Prop}
    (h : ((4 : Int) ≤ i5 → Q (.inl (some (vi i4))) V D) ∧ (i5 < 4 → RY d 209 0 [vr 405, vi i1, vi i2, vi i3, vi (wr ((1 : Int) - (wr (i5.tdiv 2)))), vi (i5.tmod 2), vr 0] [] V D (yback d 76 88 [vr 405, vi i1, vi i2, vi i3, vi i4, vi i5, vi (wr (i5.tdiv 2)), vi (i5.tmod 2)] [] Q))) :
    RY d 76 57 [vr 405, vi i1, vi i2, vi i3, vi i4, vi i5, v6, v7] [] V D Q := yat (c := xk_76) (hd := [760057]) (dk := []) (dv := []) (nb := [760060]) rfl h
set_option maxRecDepth 20000 in
theorem u_76_88 {d : Nat} {i1 i2 i3 i4 i5 i6 i7 i_0 : Int} {V : xF} {D : yD} {Q : xRes → xF → yD → Prop}
    (h : RY d 209 0 [vr 405, vi i1, vi i2, vi i3, vi i6, vi i7, vr 0] [] V D (yback d 76 99 [vr 405, vi i1, vi i2, vi i3, vi i4, vi i5, vi i6, vi i7] [vi i_0] Q)) :
    RY d 76 88 [vr 405, vi i1, vi i2, vi i3, vi i4, vi i5, vi i6, vi i7] [vi i_0] V D Q := yat (c := xk_76) (hd := [760057]) (dk := []) (dv := []) (nb := []) rfl h
set_option maxRecDepth 20000 in
theorem u_76_99 {d : Nat} {i1 i2 i3 i4 i5 i6 i7 i_0 i_1 : Int} {V : xF} {D : yD} {Q : xRes → xF → yD → Prop}
    (h : (i_1 < i_0 → RY d 76 57 [vr 405, vi i1, vi i2, vi i3, vi i4, vi (wr (i5 + 1)), vi i6, vi i7] [] V D Q) ∧ (i_0 ≤ i_1 → RY d 209 0 [vr 405, vi i2, vi i1, vi i3, vi (wr ((1 : Int) - i7)), vi i6, vr 0] [] V D (yback d 76 115 [vr 405, vi i1, vi i2, vi i3, vi i4, vi i5, vi i6, vi i7] [] Q))) :
    RY d 76 99 [vr 405, vi i1, vi i2, vi i3, vi i4, vi i5, vi i6, vi i7] [vi i_1, vi i_0] V D Q := yat (c := xk_76) (hd := [760057]) (dk := []) (dv := []) (nb := [760099]) rfl h
set_option maxRecDepth 20000 in
theorem u_76_115 {d : Nat} {i1 i2 i3 i4 i5 i6 i7 i_0 : Int} {V : xF} {D : yD} {Q : xRes → xF → yD → Prop}
    (h : RY d 209 0 [vr 405, vi i2, vi i1, vi i3, vi i7, vi i6, vr 0] [] V D (yback d 76 126 [vr 405, vi i1, vi i2, vi i3, vi i4, vi i5, vi i6, vi i7] [vi i_0] Q)) :
    RY d 76 115 [vr 405, vi i1, vi i2, vi i3, vi i4, vi i5, vi i6, vi i7] [vi i_0] V D Q := yat (c := xk_76) (hd := [760057]) (dk := []) (dv := []) (nb := []) rfl h
