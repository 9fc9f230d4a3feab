/-! ===== STRETCHES 2 (printed by wip/whole/ym.py) ===== -/
set_option maxRecDepth 20000 in
theorem u_76_126 {d : Nat} {i1 i2 i3 i4 i5 i6 i7 i_0 i_1 : Int} {V : xF} {D : yD} {Q : xRes → xF → yD → Prop}
    (h : (i_1 < i_0 → RY d 76 57 [vr 405, vi i1, vi i2, vi i3, vi i4, vi (wr (i5 + 1)), vi i6, vi i7] [] V D Q) ∧ (i_0 ≤ i_1 → RY d 76 57 [vr 405, vi i1, vi i2, vi i3, vi (xor_ i4 (xshl 1 i5)), vi (wr (i5 + 1)), vi i6, vi i7] [] V D Q)) :
    RY d 76 126 [vr 405, vi i1, vi i2, vi i3, vi i4, vi i5, vi i6, vi i7] [vi i_1, vi i_0] V D Q := yat (c := xk_76) (hd := [760057]) (dk := []) (dv := []) (nb := [760126]) rfl h
set_option maxRecDepth 20000 in
theorem u_77_0 {d : Nat} {i1 i2 : Int} {V : xF} {D : yD} {Q : xRes → xF → yD → Prop}
    (h : RY d 210 0 [vr 70, vi i1, vi i2] [] V D (yback d 77 8 [vr 70, vi i1, vi i2, vr 420, vr 0] [vi 0, vr 420] Q)) :
    RY d 77 0 [vr 70, vi i1, vi i2, vr 420, vr 0] [] V D Q := yat (c := xk_77) (hd := []) (dk := []) (dv := []) (nb := []) rfl h
set_option maxRecDepth 20000 in
theorem u_77_8 {d : Nat} {i1 i2 i_1 i_2 : Int} {V : xF} {D : yD} {Q : xRes → xF → yD → Prop}
    (h : ((0 : Int) ≤ i_1 ∧ i_1 < (1 : Int)) ∧ (∀ D1 : yD, D1 = (up2 D.1 420 i_1.toNat i_2, D.2) → Q (.inl (some (vi 0))) V D1)) :
    RY d 77 8 [vr 70, vi i1, vi i2, vr 420, vr 0] [vi i_2, vi i_1, vr 420] V D Q := yat (c := xk_77) (hd := []) (dk := []) (dv := [770009]) (nb := []) rfl h
set_option maxRecDepth 20000 in
theorem u_77_13 {d : Nat} {i1 i2 : Int} {V : xF} {D : yD} {Q : xRes → xF → yD → Prop}
    (h : Q (.inl (some (vi 1))) V D) :
    RY d 77 13 [vr 70, vi i1, vi i2, vr 420, vr 0] [vr 0] V D Q := yat (c := xk_77) (hd := []) (dk := []) (dv := []) (nb := []) rfl h
set_option maxRecDepth 20000 in
theorem u_78_0 {d : Nat} {i1 i2 : Int} {V : xF} {D : yD} {Q : xRes → xF → yD → Prop}
    (h : ((yr_124 i1 0 6 V D) = 0 → ∀ V1 : xF, V1 = up2 V 405 0 1 → (((V1 405 0) ≤ 0 → RY d 78 46 [vr 405, vi i1, vi i2, vl 0, vr 0, vl 1, vr 0, vi 0, vr 0, vr 0, vr 0] [] V1 D Q) ∧ ((0 : Int) < (V1 405 0) → Q (.inl (some (vi 0))) V1 D))) ∧ ((yr_124 i1 0 6 V D) ≠ 0 → (((yr_124 i2 0 6 V D) ≠ 0 → ∀ V2 : xF, V2 = up2 V 405 0 0 → (((V2 405 0) ≤ 0 → RY d 78 46 [vr 405, vi i1, vi i2, vl 0, vr 0, vl 1, vr 0, vi 0, vr 0, vr 0, vr 0] [] V2 D Q) ∧ ((0 : Int) < (V2 405 0) → Q (.inl (some (vi 0))) V2 D))) ∧ ((yr_124 i2 0 6 V D) = 0 → ∀ V3 : xF, V3 = up2 V 405 0 1 → (((V3 405 0) ≤ 0 → RY d 78 46 [vr 405, vi i1, vi i2, vl 0, vr 0, vl 1, vr 0, vi 0, vr 0, vr 0, vr 0] [] V3 D Q) ∧ ((0 : Int) < (V3 405 0) → Q (.inl (some (vi 0))) V3 D)))))) :
    RY d 78 0 [vr 405, vi i1, vi i2, vr 0, vr 0, vr 0, vr 0, vr 0, vr 0, vr 0, vr 0] [] V D Q := yat (c := xk_78) (hd := [780046, 780069, 780096]) (dk := []) (dv := []) (nb := [780008, 780018, 780033]) rfl h
set_option maxRecDepth 20000 in
theorem u_78_46 {d : Nat} {i1 i2 i7 : Int} {l3 l5 : Int} {V : xF} {D : yD} {Q : xRes → xF → yD → Prop}
    (h : (i1 ≤ i7 → RY d 78 69 [vr 405, vi i1, vi i2, vl l3, vr 0, vl l5, vr 0, vi 0, vr 0, vr 0, vr 0] [] V D Q) ∧ (i7 < i1 → RY d 78 46 [vr 405, vi i1, vi i2, vl l3, vr 0, vl (wl (l5 * 100)), vr 0, vi (wr (i7 + 1)), vr 0, vr 0, vr 0] [] V D Q)) :
    RY d 78 46 [vr 405, vi i1, vi i2, vl l3, vr 0, vl l5, vr 0, vi i7, vr 0, vr 0, vr 0] [] V D Q := yat (c := xk_78) (hd := [780046, 780069, 780096]) (dk := []) (dv := []) (nb := [780049]) rfl h
set_option maxRecDepth 20000 in
theorem u_78_69 {d : Nat} {i1 i2 i7 : Int} {l3 l5 : Int} {v8 v10 : xV} {V : xF} {D : yD} {Q : xRes → xF → yD → Prop}
    (h : ((xshl 1 i1) ≤ i7 → (l5 ≠ 0 ∧ Q (.inl (some (vi (wr (wl ((wl ((10000 : Int) * l3)).tdiv l5)))))) V D)) ∧ (i7 < (xshl 1 i1) → RY d 160 0 [vi i7, vr 0, vr 0] [] V D (yback d 78 82 [vr 405, vi i1, vi i2, vl l3, vr 0, vl l5, vr 0, vi i7, v8, vr 0, v10] [] Q))) :
    RY d 78 69 [vr 405, vi i1, vi i2, vl l3, vr 0, vl l5, vr 0, vi i7, v8, vr 0, v10] [] V D Q := yat (c := xk_78) (hd := [780046, 780069, 780096]) (dk := []) (dv := [780163]) (nb := [780074]) rfl h
set_option maxRecDepth 20000 in
theorem u_78_82 {d : Nat} {i1 i2 i7 i_0 : Int} {l3 l5 : Int} {v8 v10 : xV} {V : xF} {D : yD} {Q : xRes → xF → yD → Prop}
    (h : (i2 ≤ i_0 → RY d 78 96 [vr 405, vi i1, vi i2, vl l3, vr 0, vl l5, vr 0, vi i7, vl 1, vr 0, vi 0] [] V D Q) ∧ (i_0 < i2 → RY d 78 96 [vr 405, vi i1, vi i2, vl l3, vr 0, vl l5, vr 0, vi i7, vl 0, vr 0, vi 0] [] V D Q)) :
    RY d 78 82 [vr 405, vi i1, vi i2, vl l3, vr 0, vl l5, vr 0, vi i7, v8, vr 0, v10] [vi i_0] V D Q := yat (c := xk_78) (hd := [780046, 780069, 780096]) (dk := []) (dv := []) (nb := [780083]) rfl h
set_option maxRecDepth 20000 in
theorem u_78_96 {d : Nat} {i1 i2 i7 i10 : Int} {l3 l5 l8 : Int} {V : xF} {D : yD} {Q : xRes → xF → yD → Prop}
    (h : (i1 ≤ i10 → RY d 78 69 [vr 405, vi i1, vi i2, vl (wl (l3 + l8)), vr 0, vl l5, vr 0, vi (wr (i7 + 1)), vl l8, vr 0, vi i10] [] V D Q) ∧ (i10 < i1 → (((yr_198 i7 i10 V D) = 0 → RY d 78 96 [vr 405, vi i1, vi i2, vl l3, vr 0, vl l5, vr 0, vi i7, vl (wl (l8 * (wr ((100 : Int) - (V 406 11))))), vr 0, vi (wr (i10 + 1))] [] V D Q) ∧ ((yr_198 i7 i10 V D) ≠ 0 → RY d 78 96 [vr 405, vi i1, vi i2, vl l3, vr 0, vl l5, vr 0, vi i7, vl (wl (l8 * (V 406 11))), vr 0, vi (wr (i10 + 1))] [] V D Q)))) :
    RY d 78 96 [vr 405, vi i1, vi i2, vl l3, vr 0, vl l5, vr 0, vi i7, vl l8, vr 0, vi i10] [] V D Q := yat (c := xk_78) (hd := [780046, 780069, 780096]) (dk := []) (dv := []) (nb := [780099, 780111]) rfl h
set_option maxRecDepth 20000 in
theorem u_79_0 {d : Nat} {V : xF} {D : yD} {Q : xRes → xF → yD → Prop}
    (h : RY d 79 4 [vr 70, vi 0, vi 0] [] V D Q) :
    RY d 79 0 [vr 70, vr 0, vr 0] [] V D Q := yat (c := xk_79) (hd := [790004]) (dk := []) (dv := []) (nb := []) rfl h
set_option maxRecDepth 20000 in
theorem u_79_4 {d : Nat} {i1 i2 : Int} {V : xF} {D : yD} {Q : xRes → xF → yD → Prop}
    (h : ((V 81 0) ≤ i2 → Q (.inl (some (vi i1))) V D) ∧ (i2 < (V 81 0) → (yg_211_81 i2 V D ∧ RY d 212 0 [vr 254, vr 81, vi i2, vi (yr_211_81 i2 V D), vr 253, vr 0, vr 0, vr 0] [] V D (yback d 79 39 [vr 70, vi i1, vi i2] [] Q)))) :
    RY d 79 4 [vr 70, vi i1, vi i2] [] V D Q := yat (c := xk_79) (hd := [790004]) (dk := []) (dv := []) (nb := [790012]) rfl h
set_option maxRecDepth 20000 in
theorem u_79_39 {d : Nat} {i1 i2 : Int} {V : xF} {D : yD} {Q : xRes → xF → yD → Prop}
    (h : RY d 213 0 [vr 253, vr 0, vr 0] [] V D (yback d 79 46 [vr 70, vi i1, vi i2] [] Q)) :
    RY d 79 39 [vr 70, vi i1, vi i2] [] V D Q := yat (c := xk_79) (hd := [790004]) (dk := []) (dv := []) (nb := []) rfl h
set_option maxRecDepth 20000 in
theorem u_79_46 {d : Nat} {i1 i2 i_0 : Int} {V : xF} {D : yD} {Q : xRes → xF → yD → Prop}
    (h : (i_0 ≠ 0 → RY d 79 4 [vr 70, vi i1, vi (wr (i2 + 1))] [] V D Q) ∧ (i_0 = 0 → RY d 79 4 [vr 70, vi (xor_ i1 (xshl 1 i2)), vi (wr (i2 + 1))] [] V D Q)) :
    RY d 79 46 [vr 70, vi i1, vi i2] [vi i_0] V D Q := yat (c := xk_79) (hd := [790004]) (dk := []) (dv := []) (nb := [790046]) rfl h
set_option maxRecDepth 20000 in
theorem u_80_0 {d : Nat} {V : xF} {D : yD} {Q : xRes → xF → yD → Prop}
    (h : ∀ V1 : xF, V1 = up2 V 405 0 0 → RY d 80 9 [vr 405, vi 0, vi 0] [] V1 D Q) :
    RY d 80 0 [vr 405, vr 0, vr 0] [] V D Q := yat (c := xk_80) (hd := [800009]) (dk := []) (dv := []) (nb := []) rfl h
set_option maxRecDepth 20000 in
theorem u_80_9 {d : Nat} {i1 i2 : Int} {V : xF} {D : yD} {Q : xRes → xF → yD → Prop}
    (h : ((V 406 3) ≤ i2 → Q (.inl (some (vi i1))) V D) ∧ (i2 < (V 406 3) → RY d 135 0 [vr 405, vi i2] [] V D (yback d 80 25 [vr 405, vi i1, vi i2] [vi i1] Q))) :
    RY d 80 9 [vr 405, vi i1, vi i2] [] V D Q := yat (c := xk_80) (hd := [800009]) (dk := []) (dv := []) (nb := [800016]) rfl h
set_option maxRecDepth 20000 in
theorem u_80_25 {d : Nat} {i1 i2 i_0 i_1 : Int} {V : xF} {D : yD} {Q : xRes → xF → yD → Prop}
    (h : (i_1 ≠ 0 → RY d 80 9 [vr 405, vi (xor_ i_0 0), vi (wr (i2 + 1))] [] V D Q) ∧ (i_1 = 0 → RY d 80 9 [vr 405, vi (xor_ i_0 (xshl 1 i2)), vi (wr (i2 + 1))] [] V D Q)) :
    RY d 80 25 [vr 405, vi i1, vi i2] [vi i_1, vi i_0] V D Q := yat (c := xk_80) (hd := [800009]) (dk := []) (dv := []) (nb := [800025]) rfl h
set_option maxRecDepth 20000 in
theorem u_81_0 {d : Nat} {V : xF} {D : yD} {Q : xRes → xF → yD → Prop}
    (h : RY d 214 0 [vr 81, vr 0, vr 0] [] V D (yback d 81 18 [vr 70] [vi (wr ((xshl 1 (V 81 0)) - 1))] Q)) :
    RY d 81 0 [vr 70] [] V D Q := yat (c := xk_81) (hd := []) (dk := []) (dv := []) (nb := []) rfl h
set_option maxRecDepth 20000 in
theorem u_81_18 {d : Nat} {i_0 i_1 : Int} {V : xF} {D : yD} {Q : xRes → xF → yD → Prop}
    (h : Q (.inl (some (vi (xand i_0 (xxor i_1 ((-1))))))) V D) :
    RY d 81 18 [vr 70] [vi i_1, vi i_0] V D Q := yat (c := xk_81) (hd := []) (dk := []) (dv := []) (nb := []) rfl h
set_option maxRecDepth 20000 in
theorem u_82_0 {d : Nat} {V : xF} {D : yD} {Q : xRes → xF → yD → Prop}
    (h : ∀ V1 : xF, V1 = up2 V 405 0 0 → RY d 159 0 [vr 405, vr 0, vr 0] [] V1 D (yback d 82 19 [vr 405] [vi (wr ((xshl 1 (V1 406 3)) - 1))] Q)) :
    RY d 82 0 [vr 405] [] V D Q := yat (c := xk_82) (hd := []) (dk := []) (dv := []) (nb := []) rfl h
set_option maxRecDepth 20000 in
theorem u_82_19 {d : Nat} {i_0 i_1 : Int} {V : xF} {D : yD} {Q : xRes → xF → yD → Prop}
    (h : Q (.inl (some (vi (xand i_0 (xxor i_1 ((-1))))))) V D) :
    RY d 82 19 [vr 405] [vi i_1, vi i_0] V D Q := yat (c := xk_82) (hd := []) (dk := []) (dv := []) (nb := []) rfl h
set_option maxRecDepth 20000 in
theorem u_83_0 {d : Nat} {V : xF} {D : yD} {Q : xRes → xF → yD → Prop}
    (h : RY d 83 4 [vr 70, vi 0, vi 0] [] V D Q) :
    RY d 83 0 [vr 70, vr 0, vr 0] [] V D Q := yat (c := xk_83) (hd := [830004]) (dk := []) (dv := []) (nb := []) rfl h
set_option maxRecDepth 20000 in
theorem u_83_4 {d : Nat} {i1 i2 : Int} {V : xF} {D : yD} {Q : xRes → xF → yD → Prop}
    (h : ((V 81 6) ≤ i2 → Q (.inl (some (vi i1))) V D) ∧ (i2 < (V 81 6) → (((0 : Int) ≤ i2 ∧ i2 < (5 : Int)) ∧ (((V 89 i2.toNat) ≠ ((-1)) → RY d 83 4 [vr 70, vi i1, vi (wr (i2 + 1))] [] V D Q) ∧ ((V 89 i2.toNat) = ((-1)) → RY d 83 4 [vr 70, vi (xor_ i1 (xshl 1 i2)), vi (wr (i2 + 1))] [] V D Q))))) :
    RY d 83 4 [vr 70, vi i1, vi i2] [] V D Q := yat (c := xk_83) (hd := [830004]) (dk := []) (dv := [830023]) (nb := [830012, 830025]) rfl h
set_option maxRecDepth 20000 in
theorem u_84_0 {d : Nat} {V : xF} {D : yD} {Q : xRes → xF → yD → Prop}
    (h : ∀ V1 : xF, V1 = up2 V 405 0 0 → RY d 84 9 [vr 405, vi 0, vi 0] [] V1 D Q) :
    RY d 84 0 [vr 405, vr 0, vr 0] [] V D Q := yat (c := xk_84) (hd := [840009]) (dk := []) (dv := []) (nb := []) rfl h
set_option maxRecDepth 20000 in
theorem u_84_9 {d : Nat} {i1 i2 : Int} {V : xF} {D : yD} {Q : xRes → xF → yD → Prop}
    (h : ((V 406 4) ≤ i2 → Q (.inl (some (vi i1))) V D) ∧ (i2 < (V 406 4) → (yg_143 i2 2 V D ∧ (((yr_143 i2 2 V D) ≠ ((-1)) → RY d 84 9 [vr 405, vi (xor_ i1 0), vi (wr (i2 + 1))] [] V D Q) ∧ ((yr_143 i2 2 V D) = ((-1)) → RY d 84 9 [vr 405, vi (xor_ i1 (xshl 1 i2)), vi (wr (i2 + 1))] [] V D Q))))) :
    RY d 84 9 [vr 405, vi i1, vi i2] [] V D Q := yat (c := xk_84) (hd := [840009]) (dk := []) (dv := []) (nb := [840016, 840027]) rfl h
set_option maxRecDepth 20000 in
theorem u_85_0 {d : Nat} {V : xF} {D : yD} {Q : xRes → xF → yD → Prop}
    (h : RY d 85 6 [vr 70, vi ((-1)), vi 0, vi 0, vr 0] [] V D Q) :
    RY d 85 0 [vr 70, vr 0, vr 0, vr 0, vr 0] [] V D Q := yat (c := xk_85) (hd := [850006]) (dk := []) (dv := []) (nb := []) rfl h
set_option maxRecDepth 20000 in
theorem u_85_6 {d : Nat} {i1 i2 i3 : Int} {v4 : xV} {V : xF} {D : yD} {Q : xRes → xF → yD → Prop}
    (h : ((V 81 0) ≤ i3 → Q (.inl (some (vi i1))) V D) ∧ (i3 < (V 81 0) → (((0 : Int) ≤ i3 ∧ i3 < (5 : Int)) ∧ ((0 : Int) ≤ i3 ∧ i3 < (5 : Int)) ∧ (((wr ((wr ((V 82 i3.toNat) - 1)) * (wr ((V 83 i3.toNat) - 1)))) ≤ i2 → RY d 85 6 [vr 70, vi i1, vi i2, vi (wr (i3 + 1)), vi (wr ((wr ((V 82 i3.toNat) - 1)) * (wr ((V 83 i3.toNat) - 1))))] [] V D Q) ∧ (i2 < (wr ((wr ((V 82 i3.toNat) - 1)) * (wr ((V 83 i3.toNat) - 1)))) → RY d 85 6 [vr 70, vi i3, vi (wr ((wr ((V 82 i3.toNat) - 1)) * (wr ((V 83 i3.toNat) - 1)))), vi (wr (i3 + 1)), vi (wr ((wr ((V 82 i3.toNat) - 1)) * (wr ((V 83 i3.toNat) - 1))))] [] V D Q))))) :
    RY d 85 6 [vr 70, vi i1, vi i2, vi i3, v4] [] V D Q := yat (c := xk_85) (hd := [850006]) (dk := []) (dv := [850025, 850036]) (nb := [850014, 850045]) rfl h
set_option maxRecDepth 20000 in
theorem u_86_0 {d : Nat} {V : xF} {D : yD} {Q : xRes → xF → yD → Prop}
    (h : ∀ V1 : xF, V1 = up2 V 405 0 0 → RY d 86 9 [vr 405, vi ((-1)), vi 0] [] V1 D Q) :
    RY d 86 0 [vr 405, vr 0, vr 0] [] V D Q := yat (c := xk_86) (hd := [860009]) (dk := []) (dv := []) (nb := []) rfl h
set_option maxRecDepth 20000 in
theorem u_86_9 {d : Nat} {i1 i2 : Int} {V : xF} {D : yD} {Q : xRes → xF → yD → Prop}
    (h : ((V 406 3) ≤ i2 → Q (.inl (some (vi i1))) V D) ∧ (i2 < (V 406 3) → ((i1 = ((-1)) → RY d 86 9 [vr 405, vi i2, vi (wr (i2 + 1))] [] V D Q) ∧ (i1 ≠ ((-1)) → (yg_215 i2 V D ∧ yg_215 i1 V D ∧ (((yr_215 i2 V D) ≤ (yr_215 i1 V D) → RY d 86 9 [vr 405, vi i1, vi (wr (i2 + 1))] [] V D Q) ∧ ((yr_215 i1 V D) < (yr_215 i2 V D) → RY d 86 9 [vr 405, vi i2, vi (wr (i2 + 1))] [] V D Q))))))) :
    RY d 86 9 [vr 405, vi i1, vi i2] [] V D Q := yat (c := xk_86) (hd := [860009]) (dk := []) (dv := []) (nb := [860016, 860021, 860034]) rfl h
set_option maxRecDepth 20000 in
theorem u_87_0 {d : Nat} {V : xF} {D : yD} {Q : xRes → xF → yD → Prop}
    (h : RY d 87 4 [vr 70, vi 0, vi 0, vr 0] [] V D Q) :
    RY d 87 0 [vr 70, vr 0, vr 0, vr 0] [] V D Q := yat (c := xk_87) (hd := [870004, 870017]) (dk := []) (dv := []) (nb := []) rfl h
set_option maxRecDepth 20000 in
theorem u_87_4 {d : Nat} {i1 i2 : Int} {v3 : xV} {V : xF} {D : yD} {Q : xRes → xF → yD → Prop}
    (h : ((V 81 6) ≤ i2 → Q (.inl (some (vi i1))) V D) ∧ (i2 < (V 81 6) → RY d 87 17 [vr 70, vi i1, vi i2, vi 0] [] V D Q)) :
    RY d 87 4 [vr 70, vi i1, vi i2, v3] [] V D Q := yat (c := xk_87) (hd := [870004, 870017]) (dk := []) (dv := []) (nb := [870012]) rfl h
set_option maxRecDepth 20000 in
theorem u_87_17 {d : Nat} {i1 i2 i3 : Int} {V : xF} {D : yD} {Q : xRes → xF → yD → Prop}
    (h : (i2 ≤ i3 → RY d 87 4 [vr 70, vi i1, vi (wr (i2 + 1)), vi i3] [] V D Q) ∧ (i3 < i2 → (((0 : Int) ≤ i2 ∧ i2 < (5 : Int)) ∧ ((0 : Int) ≤ i3 ∧ i3 < (5 : Int)) ∧ (((V 87 i2.toNat) ≠ (V 87 i3.toNat) → RY d 87 17 [vr 70, vi i1, vi i2, vi (wr (i3 + 1))] [] V D Q) ∧ ((V 87 i2.toNat) = (V 87 i3.toNat) → (((0 : Int) ≤ i2 ∧ i2 < (5 : Int)) ∧ ((0 : Int) ≤ i3 ∧ i3 < (5 : Int)) ∧ (((V 88 i2.toNat) ≠ (V 88 i3.toNat) → RY d 87 17 [vr 70, vi i1, vi i2, vi (wr (i3 + 1))] [] V D Q) ∧ ((V 88 i2.toNat) = (V 88 i3.toNat) → RY d 87 17 [vr 70, vi (wr (i1 + 1)), vi i2, vi (wr (i3 + 1))] [] V D Q)))))))) :
    RY d 87 17 [vr 70, vi i1, vi i2, vi i3] [] V D Q := yat (c := xk_87) (hd := [870004, 870017]) (dk := []) (dv := [870030, 870039, 870051, 870060]) (nb := [870019, 870040, 870061]) rfl h
set_option maxRecDepth 20000 in
theorem u_88_0 {d : Nat} {V : xF} {D : yD} {Q : xRes → xF → yD → Prop}
    (h : ∀ V1 : xF, V1 = up2 V 405 0 0 → RY d 88 9 [vr 405, vi 0, vi 0, vr 0] [] V1 D Q) :
    RY d 88 0 [vr 405, vr 0, vr 0, vr 0] [] V D Q := yat (c := xk_88) (hd := [880009, 880023]) (dk := []) (dv := []) (nb := []) rfl h
set_option maxRecDepth 20000 in
theorem u_88_9 {d : Nat} {i1 i2 : Int} {v3 : xV} {V : xF} {D : yD} {Q : xRes → xF → yD → Prop}
    (h : ((V 406 4) ≤ i2 → Q (.inl (some (vi i1))) V D) ∧ (i2 < (V 406 4) → RY d 88 23 [vr 405, vi i1, vi i2, vi (wr (i2 + 1))] [] V D Q)) :
    RY d 88 9 [vr 405, vi i1, vi i2, v3] [] V D Q := yat (c := xk_88) (hd := [880009, 880023]) (dk := []) (dv := []) (nb := [880016]) rfl h
set_option maxRecDepth 20000 in
theorem u_88_23 {d : Nat} {i1 i2 i3 : Int} {V : xF} {D : yD} {Q : xRes → xF → yD → Prop}
    (h : ((V 406 4) ≤ i3 → RY d 88 9 [vr 405, vi i1, vi (wr (i2 + 1)), vi i3] [] V D Q) ∧ (i3 < (V 406 4) → (yg_143 i2 0 V D ∧ yg_143 i3 0 V D ∧ (((yr_143 i2 0 V D) ≠ (yr_143 i3 0 V D) → RY d 88 23 [vr 405, vi (wr (i1 + 0)), vi i2, vi (wr (i3 + 1))] [] V D Q) ∧ ((yr_143 i2 0 V D) = (yr_143 i3 0 V D) → (yg_143 i2 1 V D ∧ yg_143 i3 1 V D ∧ (((yr_143 i2 1 V D) ≠ (yr_143 i3 1 V D) → RY d 88 23 [vr 405, vi (wr (i1 + 0)), vi i2, vi (wr (i3 + 1))] [] V D Q) ∧ ((yr_143 i2 1 V D) = (yr_143 i3 1 V D) → RY d 88 23 [vr 405, vi (wr (i1 + 1)), vi i2, vi (wr (i3 + 1))] [] V D Q)))))))) :
    RY d 88 23 [vr 405, vi i1, vi i2, vi i3] [] V D Q := yat (c := xk_88) (hd := [880009, 880023]) (dk := []) (dv := []) (nb := [880030, 880046, 880061]) rfl h
set_option maxRecDepth 20000 in
theorem u_89_0 {d : Nat} {i1 : Int} {V : xF} {D : yD} {Q : xRes → xF → yD → Prop}
    (h : RY d 216 0 [vr 70, vi i1, vr 0, vr 0] [] V D (yback d 89 7 [vr 70, vi i1, vr 420, vr 0] [vi 0, vr 420] Q)) :
    RY d 89 0 [vr 70, vi i1, vr 420, vr 0] [] V D Q := yat (c := xk_89) (hd := []) (dk := []) (dv := []) (nb := []) rfl h
set_option maxRecDepth 20000 in
theorem u_89_7 {d : Nat} {i1 i_1 i_2 : Int} {V : xF} {D : yD} {Q : xRes → xF → yD → Prop}
    (h : ((0 : Int) ≤ i_1 ∧ i_1 < (1 : Int)) ∧ (∀ D1 : yD, D1 = (up2 D.1 420 i_1.toNat i_2, D.2) → Q (.inl (some (vi 0))) V D1)) :
    RY d 89 7 [vr 70, vi i1, vr 420, vr 0] [vi i_2, vi i_1, vr 420] V D Q := yat (c := xk_89) (hd := []) (dk := []) (dv := [890008]) (nb := []) rfl h
set_option maxRecDepth 20000 in
theorem u_89_12 {d : Nat} {i1 : Int} {V : xF} {D : yD} {Q : xRes → xF → yD → Prop}
    (h : Q (.inl (some (vi 1))) V D) :
    RY d 89 12 [vr 70, vi i1, vr 420, vr 0] [vr 0] V D Q := yat (c := xk_89) (hd := []) (dk := []) (dv := []) (nb := []) rfl h
set_option maxRecDepth 20000 in
theorem u_90_0 {d : Nat} {i1 : Int} {V : xF} {D : yD} {Q : xRes → xF → yD → Prop}
    (h : ((yr_124 i1 0 4 V D) ≠ 0 → ∀ V1 : xF, V1 = up2 V 405 0 0 → (((V1 405 0) ≤ 0 → RY d 90 31 [vr 405, vi i1, vi 0, vi 0, vr 0] [] V1 D Q) ∧ ((0 : Int) < (V1 405 0) → Q (.inl (some (vi 0))) V1 D))) ∧ ((yr_124 i1 0 4 V D) = 0 → ∀ V2 : xF, V2 = up2 V 405 0 1 → (((V2 405 0) ≤ 0 → RY d 90 31 [vr 405, vi i1, vi 0, vi 0, vr 0] [] V2 D Q) ∧ ((0 : Int) < (V2 405 0) → Q (.inl (some (vi 0))) V2 D)))) :
    RY d 90 0 [vr 405, vi i1, vr 0, vr 0, vr 0] [] V D Q := yat (c := xk_90) (hd := [900031, 900044]) (dk := []) (dv := []) (nb := [900007, 900022]) rfl h
set_option maxRecDepth 20000 in
theorem u_90_31 {d : Nat} {i1 i2 i3 : Int} {v4 : xV} {V : xF} {D : yD} {Q : xRes → xF → yD → Prop}
    (h : ((V 406 3) ≤ i3 → Q (.inl (some (vi i2))) V D) ∧ (i3 < (V 406 3) → RY d 90 44 [vr 405, vi i1, vi i2, vi i3, vi 0] [] V D Q)) :
    RY d 90 31 [vr 405, vi i1, vi i2, vi i3, v4] [] V D Q := yat (c := xk_90) (hd := [900031, 900044]) (dk := []) (dv := []) (nb := [900038]) rfl h
set_option maxRecDepth 20000 in
theorem u_90_44 {d : Nat} {i1 i2 i3 i4 : Int} {V : xF} {D : yD} {Q : xRes → xF → yD → Prop}
    (h : ((4 : Int) ≤ i4 → RY d 90 31 [vr 405, vi i1, vi i2, vi (wr (i3 + 1)), vi i4] [] V D Q) ∧ (i4 < 4 → (yg_133 i3 (wr ((2 : Int) + i4)) V D ∧ (((yr_133 i3 (wr ((2 : Int) + i4)) V D) ≠ i1 → RY d 90 44 [vr 405, vi i1, vi (wr (i2 + 0)), vi i3, vi (wr (i4 + 1))] [] V D Q) ∧ ((yr_133 i3 (wr ((2 : Int) + i4)) V D) = i1 → RY d 90 44 [vr 405, vi i1, vi (wr (i2 + 1)), vi i3, vi (wr (i4 + 1))] [] V D Q))))) :
    RY d 90 44 [vr 405, vi i1, vi i2, vi i3, vi i4] [] V D Q := yat (c := xk_90) (hd := [900031, 900044]) (dk := []) (dv := []) (nb := [900047, 900061]) rfl h
set_option maxRecDepth 20000 in
theorem u_91_0 {d : Nat} {i1 i2 : Int} {V : xF} {D : yD} {Q : xRes → xF → yD → Prop}
    (h : RY d 217 0 [vr 70, vi i1, vi i2] [] V D (yback d 91 8 [vr 70, vi i1, vi i2, vr 420, vr 0] [vi 0, vr 420] Q)) :
    RY d 91 0 [vr 70, vi i1, vi i2, vr 420, vr 0] [] V D Q := yat (c := xk_91) (hd := []) (dk := []) (dv := []) (nb := []) rfl h
set_option maxRecDepth 20000 in
theorem u_91_8 {d : Nat} {i1 i2 i_1 i_2 : Int} {V : xF} {D : yD} {Q : xRes → xF → yD → Prop}
    (h : ((0 : Int) ≤ i_1 ∧ i_1 < (1 : Int)) ∧ (∀ D1 : yD, D1 = (up2 D.1 420 i_1.toNat i_2, D.2) → Q (.inl (some (vi 0))) V D1)) :
    RY d 91 8 [vr 70, vi i1, vi i2, vr 420, vr 0] [vi i_2, vi i_1, vr 420] V D Q := yat (c := xk_91) (hd := []) (dk := []) (dv := [910009]) (nb := []) rfl h
set_option maxRecDepth 20000 in
theorem u_91_13 {d : Nat} {i1 i2 : Int} {V : xF} {D : yD} {Q : xRes → xF → yD → Prop}
    (h : Q (.inl (some (vi 1))) V D) :
    RY d 91 13 [vr 70, vi i1, vi i2, vr 420, vr 0] [vr 0] V D Q := yat (c := xk_91) (hd := []) (dk := []) (dv := []) (nb := []) rfl h
set_option maxRecDepth 20000 in
theorem u_91_17 {d : Nat} {i1 i2 : Int} {V : xF} {D : yD} {Q : xRes → xF → yD → Prop}
    (h : Q (.inl (some (vi 2))) V D) :
    RY d 91 17 [vr 70, vi i1, vi i2, vr 420, vr 0] [vr 0] V D Q := yat (c := xk_91) (hd := []) (dk := []) (dv := []) (nb := []) rfl h
set_option maxRecDepth 20000 in
theorem u_92_0 {d : Nat} {i1 i2 : Int} {V : xF} {D : yD} {Q : xRes → xF → yD → Prop}
    (h : yg_142 i1 V D ∧ (((yr_142 i1 V D) ≠ 0 → (((yr_124 i2 0 60 V D) ≠ 0 → ∀ V1 : xF, V1 = up2 V 405 0 0 → (((V1 405 0) ≤ 0 → RY d 126 0 [vr 405, vr 0] [] V1 D (yback d 92 44 [vr 405, vi i1, vi i2, vr 0] [] Q)) ∧ ((0 : Int) < (V1 405 0) → Q (.inl (some (vi 0))) V1 D))) ∧ ((yr_124 i2 0 60 V D) = 0 → ∀ V2 : xF, V2 = up2 V 405 0 2 → (((V2 405 0) ≤ 0 → RY d 126 0 [vr 405, vr 0] [] V2 D (yback d 92 44 [vr 405, vi i1, vi i2, vr 0] [] Q)) ∧ ((0 : Int) < (V2 405 0) → Q (.inl (some (vi 0))) V2 D))))) ∧ ((yr_142 i1 V D) = 0 → ∀ V3 : xF, V3 = up2 V 405 0 1 → (((V3 405 0) ≤ 0 → RY d 126 0 [vr 405, vr 0] [] V3 D (yback d 92 44 [vr 405, vi i1, vi i2, vr 0] [] Q)) ∧ ((0 : Int) < (V3 405 0) → Q (.inl (some (vi 0))) V3 D))))) :
    RY d 92 0 [vr 405, vi i1, vi i2, vr 0] [] V D Q := yat (c := xk_92) (hd := []) (dk := []) (dv := []) (nb := [920006, 920020, 920035]) rfl h
set_option maxRecDepth 20000 in
theorem u_92_44 {d : Nat} {i1 i2 : Int} {V : xF} {D : yD} {Q : xRes → xF → yD → Prop}
    (h : RY d 158 0 [vr 405, vi i2, vi 0, vr 0] [] V D (yback d 92 50 [vr 405, vi i1, vi i2, vr 0] [] Q)) :
    RY d 92 44 [vr 405, vi i1, vi i2, vr 0] [] V D Q := yat (c := xk_92) (hd := []) (dk := []) (dv := []) (nb := []) rfl h
set_option maxRecDepth 20000 in
theorem u_92_50 {d : Nat} {i1 i2 : Int} {V : xF} {D : yD} {Q : xRes → xF → yD → Prop}
    (h : yg_143 i1 2 V D ∧ RY d 129 0 [vr 405, vr 0] [] V D (yback d 92 61 [vr 405, vi i1, vi i2, vi (yr_143 i1 2 V D)] [] Q)) :
    RY d 92 50 [vr 405, vi i1, vi i2, vr 0] [] V D Q := yat (c := xk_92) (hd := []) (dk := []) (dv := []) (nb := []) rfl h
set_option maxRecDepth 20000 in
theorem u_92_61 {d : Nat} {i1 i2 i3 : Int} {V : xF} {D : yD} {Q : xRes → xF → yD → Prop}
    (h : Q (.inl (some (vi i3))) V D) :
    RY d 92 61 [vr 405, vi i1, vi i2, vi i3] [] V D Q := yat (c := xk_92) (hd := []) (dk := []) (dv := []) (nb := []) rfl h
set_option maxRecDepth 20000 in
theorem u_93_0 {d : Nat} {i1 i2 : Int} {V : xF} {D : yD} {Q : xRes → xF → yD → Prop}
    (h : RY d 218 0 [vr 70, vi i1, vi i2] [] V D (yback d 93 8 [vr 70, vi i1, vi i2, vr 420, vr 0] [vi 0, vr 420] Q)) :
    RY d 93 0 [vr 70, vi i1, vi i2, vr 420, vr 0] [] V D Q := yat (c := xk_93) (hd := []) (dk := []) (dv := []) (nb := []) rfl h
set_option maxRecDepth 20000 in
theorem u_93_8 {d : Nat} {i1 i2 i_1 i_2 : Int} {V : xF} {D : yD} {Q : xRes → xF → yD → Prop}
    (h : ((0 : Int) ≤ i_1 ∧ i_1 < (1 : Int)) ∧ (∀ D1 : yD, D1 = (up2 D.1 420 i_1.toNat i_2, D.2) → Q (.inl (some (vi 0))) V D1)) :
    RY d 93 8 [vr 70, vi i1, vi i2, vr 420, vr 0] [vi i_2, vi i_1, vr 420] V D Q := yat (c := xk_93) (hd := []) (dk := []) (dv := [930009]) (nb := []) rfl h
set_option maxRecDepth 20000 in
theorem u_93_13 {d : Nat} {i1 i2 : Int} {V : xF} {D : yD} {Q : xRes → xF → yD → Prop}
    (h : Q (.inl (some (vi 1))) V D) :
    RY d 93 13 [vr 70, vi i1, vi i2, vr 420, vr 0] [vr 0] V D Q := yat (c := xk_93) (hd := []) (dk := []) (dv := []) (nb := []) rfl h
set_option maxRecDepth 20000 in
theorem u_94_0 {d : Nat} {i1 i2 : Int} {V : xF} {D : yD} {Q : xRes → xF → yD → Prop}
    (h : ((yr_124 i1 0 60 V D) ≠ 0 → ∀ V1 : xF, V1 = up2 V 405 0 0 → (((V1 405 0) ≤ 0 → RY d 126 0 [vr 405, vr 0] [] V1 D (yback d 94 32 [vr 405, vi i1, vi i2, vr 0] [] Q)) ∧ ((0 : Int) < (V1 405 0) → Q (.inl (some (vi 0))) V1 D))) ∧ ((yr_124 i1 0 60 V D) = 0 → ∀ V2 : xF, V2 = up2 V 405 0 1 → (((V2 405 0) ≤ 0 → RY d 126 0 [vr 405, vr 0] [] V2 D (yback d 94 32 [vr 405, vi i1, vi i2, vr 0] [] Q)) ∧ ((0 : Int) < (V2 405 0) → Q (.inl (some (vi 0))) V2 D)))) :
    RY d 94 0 [vr 405, vi i1, vi i2, vr 0] [] V D Q := yat (c := xk_94) (hd := []) (dk := []) (dv := []) (nb := [940008, 940023]) rfl h
set_option maxRecDepth 20000 in
theorem u_94_32 {d : Nat} {i1 i2 : Int} {V : xF} {D : yD} {Q : xRes → xF → yD → Prop}
    (h : RY d 158 0 [vr 405, vi i1, vi 1, vr 0] [] V D (yback d 94 38 [vr 405, vi i1, vi i2, vr 0] [] Q)) :
    RY d 94 32 [vr 405, vi i1, vi i2, vr 0] [] V D Q := yat (c := xk_94) (hd := []) (dk := []) (dv := []) (nb := []) rfl h
set_option maxRecDepth 20000 in
theorem u_94_38 {d : Nat} {i1 i2 : Int} {V : xF} {D : yD} {Q : xRes → xF → yD → Prop}
    (h : (i2 = 0 → RY d 159 0 [vr 405, vr 0, vr 0] [] V D (yback d 94 57 [vr 405, vi i1, vi i2, vr 0] [] Q)) ∧ (i2 ≠ 0 → RY d 159 0 [vr 405, vr 0, vr 0] [] V D (yback d 94 47 [vr 405, vi i1, vi i2, vr 0] [vr 405] Q))) :
    RY d 94 38 [vr 405, vi i1, vi i2, vr 0] [] V D Q := yat (c := xk_94) (hd := []) (dk := []) (dv := []) (nb := [940039]) rfl h
set_option maxRecDepth 20000 in
theorem u_94_47 {d : Nat} {i1 i2 i_1 : Int} {V : xF} {D : yD} {Q : xRes → xF → yD → Prop}
    (h : RY d 219 0 [vr 405, vi i_1, vr 0, vr 0] [] V D (yback d 94 50 [vr 405, vi i1, vi i2, vr 0] [] Q)) :
    RY d 94 47 [vr 405, vi i1, vi i2, vr 0] [vi i_1, vr 405] V D Q := yat (c := xk_94) (hd := []) (dk := []) (dv := []) (nb := []) rfl h
set_option maxRecDepth 20000 in
theorem u_94_50 {d : Nat} {i1 i2 i_0 : Int} {V : xF} {D : yD} {Q : xRes → xF → yD → Prop}
    (h : RY d 129 0 [vr 405, vr 0] [] V D (yback d 94 62 [vr 405, vi i1, vi i2, vi i_0] [] Q)) :
    RY d 94 50 [vr 405, vi i1, vi i2, vr 0] [vi i_0] V D Q := yat (c := xk_94) (hd := []) (dk := []) (dv := []) (nb := []) rfl h
set_option maxRecDepth 20000 in
theorem u_94_57 {d : Nat} {i1 i2 i_0 : Int} {V : xF} {D : yD} {Q : xRes → xF → yD → Prop}
    (h : RY d 129 0 [vr 405, vr 0] [] V D (yback d 94 62 [vr 405, vi i1, vi i2, vi i_0] [] Q)) :
    RY d 94 57 [vr 405, vi i1, vi i2, vr 0] [vi i_0] V D Q := yat (c := xk_94) (hd := []) (dk := []) (dv := []) (nb := []) rfl h
set_option maxRecDepth 20000 in
theorem u_94_62 {d : Nat} {i1 i2 i3 : Int} {V : xF} {D : yD} {Q : xRes → xF → yD → Prop}
    (h : Q (.inl (some (vi i3))) V D) :
    RY d 94 62 [vr 405, vi i1, vi i2, vi i3] [] V D Q := yat (c := xk_94) (hd := []) (dk := []) (dv := []) (nb := []) rfl h
set_option maxRecDepth 20000 in
theorem u_95_0 {d : Nat} {i1 i2 : Int} {V : xF} {D : yD} {Q : xRes → xF → yD → Prop}
    (h : RY d 220 0 [vr 70, vi i1, vi i2, vr 0, vr 0, vr 0, vr 0] [] V D (yback d 95 8 [vr 70, vi i1, vi i2, vr 420, vr 0] [vi 0, vr 420] Q)) :
    RY d 95 0 [vr 70, vi i1, vi i2, vr 420, vr 0] [] V D Q := yat (c := xk_95) (hd := []) (dk := []) (dv := []) (nb := []) rfl h
set_option maxRecDepth 20000 in
theorem u_95_8 {d : Nat} {i1 i2 i_1 i_2 : Int} {V : xF} {D : yD} {Q : xRes → xF → yD → Prop}
    (h : ((0 : Int) ≤ i_1 ∧ i_1 < (1 : Int)) ∧ (∀ D1 : yD, D1 = (up2 D.1 420 i_1.toNat i_2, D.2) → Q (.inl (some (vi 0))) V D1)) :
    RY d 95 8 [vr 70, vi i1, vi i2, vr 420, vr 0] [vi i_2, vi i_1, vr 420] V D Q := yat (c := xk_95) (hd := []) (dk := []) (dv := [950009]) (nb := []) rfl h
set_option maxRecDepth 20000 in
theorem u_95_13 {d : Nat} {i1 i2 : Int} {V : xF} {D : yD} {Q : xRes → xF → yD → Prop}
    (h : Q (.inl (some (vi 1))) V D) :
    RY d 95 13 [vr 70, vi i1, vi i2, vr 420, vr 0] [vr 0] V D Q := yat (c := xk_95) (hd := []) (dk := []) (dv := []) (nb := []) rfl h
set_option maxRecDepth 20000 in
theorem u_96_0 {d : Nat} {i1 i2 : Int} {V : xF} {D : yD} {Q : xRes → xF → yD → Prop}
    (h : ((yr_124 i1 0 60 V D) ≠ 0 → ∀ V1 : xF, V1 = up2 V 405 0 0 → (((V1 405 0) ≤ 0 → RY d 126 0 [vr 405, vr 0] [] V1 D (yback d 96 32 [vr 405, vi i1, vi i2, vr 0, vr 0, vr 0] [] Q)) ∧ ((0 : Int) < (V1 405 0) → Q (.inl (some (vi 0))) V1 D))) ∧ ((yr_124 i1 0 60 V D) = 0 → ∀ V2 : xF, V2 = up2 V 405 0 1 → (((V2 405 0) ≤ 0 → RY d 126 0 [vr 405, vr 0] [] V2 D (yback d 96 32 [vr 405, vi i1, vi i2, vr 0, vr 0, vr 0] [] Q)) ∧ ((0 : Int) < (V2 405 0) → Q (.inl (some (vi 0))) V2 D)))) :
    RY d 96 0 [vr 405, vi i1, vi i2, vr 0, vr 0, vr 0] [] V D Q := yat (c := xk_96) (hd := [960037]) (dk := []) (dv := []) (nb := [960008, 960023]) rfl h
set_option maxRecDepth 20000 in
theorem u_96_32 {d : Nat} {i1 i2 : Int} {V : xF} {D : yD} {Q : xRes → xF → yD → Prop}
    (h : RY d 96 37 [vr 405, vi i1, vi i2, vi ((-1)), vi 1, vr 0] [] V D Q) :
    RY d 96 32 [vr 405, vi i1, vi i2, vr 0, vr 0, vr 0] [] V D Q := yat (c := xk_96) (hd := [960037]) (dk := []) (dv := []) (nb := []) rfl h
set_option maxRecDepth 20000 in
theorem u_96_37 {d : Nat} {i1 i2 i3 i4 : Int} {v5 : xV} {V : xF} {D : yD} {Q : xRes → xF → yD → Prop}
    (h : ((6 : Int) < i4 → Q (.inl (some (vi i3))) V D) ∧ (i4 ≤ 6 → ∀ V1 : xF, V1 = up2 V 406 15 i4 → RY d 158 0 [vr 405, vi i1, vi 1, vr 0] [] V1 D (yback d 96 59 [vr 405, vi i1, vi i2, vi i3, vi i4, v5] [] Q))) :
    RY d 96 37 [vr 405, vi i1, vi i2, vi i3, vi i4, v5] [] V D Q := yat (c := xk_96) (hd := [960037]) (dk := []) (dv := []) (nb := [960041]) rfl h
set_option maxRecDepth 20000 in
theorem u_96_59 {d : Nat} {i1 i2 i3 i4 : Int} {v5 : xV} {V : xF} {D : yD} {Q : xRes → xF → yD → Prop}
    (h : RY d 159 0 [vr 405, vr 0, vr 0] [] V D (yback d 96 63 [vr 405, vi i1, vi i2, vi i3, vi i4, v5] [] Q)) :
    RY d 96 59 [vr 405, vi i1, vi i2, vi i3, vi i4, v5] [] V D Q := yat (c := xk_96) (hd := [960037]) (dk := []) (dv := []) (nb := []) rfl h
set_option maxRecDepth 20000 in
theorem u_96_63 {d : Nat} {i1 i2 i3 i4 i_0 : Int} {v5 : xV} {V : xF} {D : yD} {Q : xRes → xF → yD → Prop}
    (h : RY d 160 0 [vi i_0, vr 0, vr 0] [] V D (yback d 96 66 [vr 405, vi i1, vi i2, vi i3, vi i4, v5] [] Q)) :
    RY d 96 63 [vr 405, vi i1, vi i2, vi i3, vi i4, v5] [vi i_0] V D Q := yat (c := xk_96) (hd := [960037]) (dk := []) (dv := []) (nb := []) rfl h
set_option maxRecDepth 20000 in
theorem u_96_66 {d : Nat} {i1 i2 i3 i4 i_0 : Int} {v5 : xV} {V : xF} {D : yD} {Q : xRes → xF → yD → Prop}
    (h : RY d 129 0 [vr 405, vr 0] [] V D (yback d 96 72 [vr 405, vi i1, vi i2, vi i3, vi i4, vi i_0] [] Q)) :
    RY d 96 66 [vr 405, vi i1, vi i2, vi i3, vi i4, v5] [vi i_0] V D Q := yat (c := xk_96) (hd := [960037]) (dk := []) (dv := []) (nb := []) rfl h
set_option maxRecDepth 20000 in
theorem u_96_72 {d : Nat} {i1 i2 i3 i4 i5 : Int} {V : xF} {D : yD} {Q : xRes → xF → yD → Prop}
    (h : (i3 ≠ ((-1)) → ((i2 = 0 → RY d 96 37 [vr 405, vi i1, vi i2, vi (yr_169 i3 i5 V D), vi (wr (i4 + 1)), vi i5] [] V D Q) ∧ (i2 ≠ 0 → RY d 96 37 [vr 405, vi i1, vi i2, vi (yr_185 i3 i5 V D), vi (wr (i4 + 1)), vi i5] [] V D Q))) ∧ (i3 = ((-1)) → RY d 96 37 [vr 405, vi i1, vi i2, vi i5, vi (wr (i4 + 1)), vi i5] [] V D Q)) :
    RY d 96 72 [vr 405, vi i1, vi i2, vi i3, vi i4, vi i5] [] V D Q := yat (c := xk_96) (hd := [960037]) (dk := []) (dv := []) (nb := [960074, 960083]) rfl h
set_option maxRecDepth 20000 in
theorem u_97_0 {d : Nat} {i1 i2 : Int} {V : xF} {D : yD} {Q : xRes → xF → yD → Prop}
    (h : RY d 221 0 [vr 70, vi i1, vi i2] [] V D (yback d 97 8 [vr 70, vi i1, vi i2, vr 420, vr 0] [vi 0, vr 420] Q)) :
    RY d 97 0 [vr 70, vi i1, vi i2, vr 420, vr 0] [] V D Q := yat (c := xk_97) (hd := []) (dk := []) (dv := []) (nb := []) rfl h
set_option maxRecDepth 20000 in
theorem u_97_8 {d : Nat} {i1 i2 i_1 i_2 : Int} {V : xF} {D : yD} {Q : xRes → xF → yD → Prop}
    (h : ((0 : Int) ≤ i_1 ∧ i_1 < (1 : Int)) ∧ (∀ D1 : yD, D1 = (up2 D.1 420 i_1.toNat i_2, D.2) → Q (.inl (some (vi 0))) V D1)) :
    RY d 97 8 [vr 70, vi i1, vi i2, vr 420, vr 0] [vi i_2, vi i_1, vr 420] V D Q := yat (c := xk_97) (hd := []) (dk := []) (dv := [970009]) (nb := []) rfl h
set_option maxRecDepth 20000 in
theorem u_97_13 {d : Nat} {i1 i2 : Int} {V : xF} {D : yD} {Q : xRes → xF → yD → Prop}
    (h : Q (.inl (some (vi 1))) V D) :
    RY d 97 13 [vr 70, vi i1, vi i2, vr 420, vr 0] [vr 0] V D Q := yat (c := xk_97) (hd := []) (dk := []) (dv := []) (nb := []) rfl h
set_option maxRecDepth 20000 in
theorem u_98_0 {d : Nat} {i1 i2 : Int} {V : xF} {D : yD} {Q : xRes → xF → yD → Prop}
    (h : yg_132 i1 V D ∧ (((yr_132 i1 V D) ≠ 0 → ∀ V1 : xF, V1 = up2 V 405 0 0 → (((V1 405 0) ≤ 0 → RY d 98 42 [vr 405, vi i1, vi i2, vi 0, vi ((-1)), vi (wr ((V1 406 14) - 1))] [] V1 D Q) ∧ ((0 : Int) < (V1 405 0) → Q (.inl (some (vi 0))) V1 D))) ∧ ((yr_132 i1 V D) = 0 → ∀ V2 : xF, V2 = up2 V 405 0 1 → (((V2 405 0) ≤ 0 → RY d 98 42 [vr 405, vi i1, vi i2, vi 0, vi ((-1)), vi (wr ((V2 406 14) - 1))] [] V2 D Q) ∧ ((0 : Int) < (V2 405 0) → Q (.inl (some (vi 0))) V2 D))))) :
    RY d 98 0 [vr 405, vi i1, vi i2, vr 0, vr 0, vr 0] [] V D Q := yat (c := xk_98) (hd := [980042]) (dk := []) (dv := []) (nb := [980006, 980021]) rfl h
set_option maxRecDepth 20000 in
theorem u_98_42 {d : Nat} {i1 i2 i3 i4 i5 : Int} {V : xF} {D : yD} {Q : xRes → xF → yD → Prop}
    (h : (i5 < 0 → ((i2 = 0 → Q (.inl (some (vi i3))) V D) ∧ (i2 ≠ 0 → Q (.inl (some (vi i4))) V D))) ∧ ((0 : Int) ≤ i5 → (yg_222 i5 1 V D ∧ (((yr_222 i5 1 V D) = i1 → (yg_222 i5 2 V D ∧ RY d 98 42 [vr 405, vi i1, vi i2, vi (wr (i3 + 1)), vi (yr_222 i5 2 V D), vi (wr (i5 + (-1)))] [] V D Q)) ∧ ((yr_222 i5 1 V D) ≠ i1 → RY d 98 42 [vr 405, vi i1, vi i2, vi i3, vi i4, vi (wr (i5 + (-1)))] [] V D Q))))) :
    RY d 98 42 [vr 405, vi i1, vi i2, vi i3, vi i4, vi i5] [] V D Q := yat (c := xk_98) (hd := [980042]) (dk := []) (dv := []) (nb := [980044, 980055, 980080]) rfl h
set_option maxRecDepth 20000 in
theorem u_99_0 {d : Nat} {i1 i2 : Int} {V : xF} {D : yD} {Q : xRes → xF → yD → Prop}
    (h : RY d 223 0 [vr 70, vi i1, vi i2] [] V D (yback d 99 8 [vr 70, vi i1, vi i2, vr 420, vr 0] [vi 0, vr 420] Q)) :
    RY d 99 0 [vr 70, vi i1, vi i2, vr 420, vr 0] [] V D Q := yat (c := xk_99) (hd := []) (dk := []) (dv := []) (nb := []) rfl h
set_option maxRecDepth 20000 in
theorem u_99_8 {d : Nat} {i1 i2 i_1 i_2 : Int} {V : xF} {D : yD} {Q : xRes → xF → yD → Prop}
    (h : ((0 : Int) ≤ i_1 ∧ i_1 < (1 : Int)) ∧ (∀ D1 : yD, D1 = (up2 D.1 420 i_1.toNat i_2, D.2) → Q (.inl (some (vi 0))) V D1)) :
    RY d 99 8 [vr 70, vi i1, vi i2, vr 420, vr 0] [vi i_2, vi i_1, vr 420] V D Q := yat (c := xk_99) (hd := []) (dk := []) (dv := [990009]) (nb := []) rfl h
set_option maxRecDepth 20000 in
theorem u_99_13 {d : Nat} {i1 i2 : Int} {V : xF} {D : yD} {Q : xRes → xF → yD → Prop}
    (h : Q (.inl (some (vi 1))) V D) :
    RY d 99 13 [vr 70, vi i1, vi i2, vr 420, vr 0] [vr 0] V D Q := yat (c := xk_99) (hd := []) (dk := []) (dv := []) (nb := []) rfl h
set_option maxRecDepth 20000 in
theorem u_100_0 {d : Nat} {i1 i2 : Int} {V : xF} {D : yD} {Q : xRes → xF → yD → Prop}
    (h : ((yr_124 i2 0 3 V D) ≠ 0 → ∀ V1 : xF, V1 = up2 V 405 0 0 → (((V1 405 0) ≤ 0 → (((yr_124 i1 0 (wr ((V1 406 14) - 1)) V1 D) = 0 → Q (.inl (some (vi ((-1))))) V1 D) ∧ ((yr_124 i1 0 (wr ((V1 406 14) - 1)) V1 D) ≠ 0 → (yg_222 i1 i2 V1 D ∧ Q (.inl (some (vi (yr_222 i1 i2 V1 D)))) V1 D)))) ∧ ((0 : Int) < (V1 405 0) → Q (.inl (some (vi 0))) V1 D))) ∧ ((yr_124 i2 0 3 V D) = 0 → ∀ V2 : xF, V2 = up2 V 405 0 1 → (((V2 405 0) ≤ 0 → (((yr_124 i1 0 (wr ((V2 406 14) - 1)) V2 D) = 0 → Q (.inl (some (vi ((-1))))) V2 D) ∧ ((yr_124 i1 0 (wr ((V2 406 14) - 1)) V2 D) ≠ 0 → (yg_222 i1 i2 V2 D ∧ Q (.inl (some (vi (yr_222 i1 i2 V2 D)))) V2 D)))) ∧ ((0 : Int) < (V2 405 0) → Q (.inl (some (vi 0))) V2 D)))) :
    RY d 100 0 [vr 405, vi i1, vi i2] [] V D Q := yat (c := xk_100) (hd := []) (dk := []) (dv := []) (nb := [1000007, 1000022, 1000041]) rfl h
set_option maxRecDepth 20000 in
theorem u_103_0 {d : Nat} {V : xF} {D : yD} {Q : xRes → xF → yD → Prop}
    (h : ((V 70 8) ≠ 0 → ∀ V1 : xF, V1 = up2 V 70 8 (wr ((V 70 8) - 1)) → (((V1 70 7) ≠ 0 → ∀ V2 : xF, V2 = up2 V1 70 7 (wr ((V1 70 7) - 1)) → ((24 ≤ (yK D.2.2.1 114).1 ∧ (yK D.2.2.1 114).1 ≤ 25) ∧ ((0 : Int) ≤ V2 70 7 ∧ V2 70 7 < (12 : Int)) ∧ yR D.2.1 D.2.2.1 114 ((V2 70 7).toNat) ≠ 0 ∧ (∀ q3 : Nat, q3 = yR D.2.1 D.2.2.1 114 ((V2 70 7).toNat) → RY d 224 0 [vr 81, vr q3] [] V2 D (yback d 103 57 [vr 70] [] Q)))) ∧ ((V1 70 7) = 0 → ∀ V4 : xF, V4 = up2 V1 70 7 11 → ((24 ≤ (yK D.2.2.1 114).1 ∧ (yK D.2.2.1 114).1 ≤ 25) ∧ ((0 : Int) ≤ V4 70 7 ∧ V4 70 7 < (12 : Int)) ∧ yR D.2.1 D.2.2.1 114 ((V4 70 7).toNat) ≠ 0 ∧ (∀ q5 : Nat, q5 = yR D.2.1 D.2.2.1 114 ((V4 70 7).toNat) → RY d 224 0 [vr 81, vr q5] [] V4 D (yback d 103 57 [vr 70] [] Q)))))) ∧ ((V 70 8) = 0 → Q (.inl (some (vi 0))) V D)) :
    RY d 103 0 [vr 70] [] V D Q := yat (c := xk_103) (hd := []) (dk := [1030053]) (dv := [1030053]) (nb := [1030004, 1030024]) rfl h
set_option maxRecDepth 20000 in
theorem u_103_57 {d : Nat} {V : xF} {D : yD} {Q : xRes → xF → yD → Prop}
    (h : Q (.inl (some (vi 1))) V D) :
    RY d 103 57 [vr 70] [] V D Q := yat (c := xk_103) (hd := []) (dk := []) (dv := []) (nb := []) rfl h
set_option maxRecDepth 20000 in
theorem u_104_0 {d : Nat} {V : xF} {D : yD} {Q : xRes → xF → yD → Prop}
    (h : ∀ V1 : xF, V1 = up2 V 405 0 0 → (((V1 405 6) ≠ 0 → ∀ V2 : xF, V2 = up2 V1 405 6 (wr ((V1 405 6) - 1)) → RY d 104 26 [vr 405, vi 0] [] V2 D Q) ∧ ((V1 405 6) = 0 → Q (.inl (some (vi 0))) V1 D))) :
    RY d 104 0 [vr 405, vr 0] [] V D Q := yat (c := xk_104) (hd := [1040026]) (dk := []) (dv := []) (nb := [1040009]) rfl h
set_option maxRecDepth 20000 in
theorem u_104_26 {d : Nat} {i1 : Int} {V : xF} {D : yD} {Q : xRes → xF → yD → Prop}
    (h : ((331 : Int) ≤ i1 → Q (.inl (some (vi 1))) V D) ∧ (i1 < 331 → (((0 : Int) ≤ wr ((wr ((331 : Int) * (V 405 6))) + i1) ∧ wr ((wr ((331 : Int) * (V 405 6))) + i1) < (3972 : Int)) ∧ ((0 : Int) ≤ i1 ∧ i1 < (731 : Int)) ∧ (∀ V1 : xF, V1 = up2 V 406 i1.toNat (V 409 ((wr ((wr ((331 : Int) * (V 405 6))) + i1)).toNat)) → RY d 104 26 [vr 405, vi (wr (i1 + 1))] [] V1 D Q)))) :
    RY d 104 26 [vr 405, vi i1] [] V D Q := yat (c := xk_104) (hd := [1040026]) (dk := []) (dv := [1040052, 1040053]) (nb := [1040030]) rfl h
set_option maxRecDepth 20000 in
theorem u_105_0 {d : Nat} {V : xF} {D : yD} {Q : xRes → xF → yD → Prop}
    (h : RY d 224 0 [vr 103, vr 81] [] V D (yback d 105 11 [vr 70] [] Q)) :
    RY d 105 0 [vr 70] [] V D Q := yat (c := xk_105) (hd := []) (dk := []) (dv := []) (nb := []) rfl h
set_option maxRecDepth 20000 in
theorem u_105_11 {d : Nat} {V : xF} {D : yD} {Q : xRes → xF → yD → Prop}
    (h : ∀ V1 : xF, V1 = up2 V 70 5 1 → Q (.inl none) V1 D) :
    RY d 105 11 [vr 70] [] V D Q := yat (c := xk_105) (hd := []) (dk := []) (dv := []) (nb := []) rfl h
set_option maxRecDepth 20000 in
theorem u_106_0 {d : Nat} {V : xF} {D : yD} {Q : xRes → xF → yD → Prop}
    (h : ∀ V1 : xF, V1 = up2 V 405 0 0 → RY d 106 7 [vr 405, vi 0] [] V1 D Q) :
    RY d 106 0 [vr 405, vr 0] [] V D Q := yat (c := xk_106) (hd := [1060007]) (dk := []) (dv := []) (nb := []) rfl h
set_option maxRecDepth 20000 in
theorem u_106_7 {d : Nat} {i1 : Int} {V : xF} {D : yD} {Q : xRes → xF → yD → Prop}
    (h : ((731 : Int) ≤ i1 → ∀ V1 : xF, V1 = up2 V 405 3 1 → Q (.inl none) V1 D) ∧ (i1 < 731 → (((0 : Int) ≤ i1 ∧ i1 < (731 : Int)) ∧ ((0 : Int) ≤ i1 ∧ i1 < (731 : Int)) ∧ (∀ V2 : xF, V2 = up2 V 407 i1.toNat (V 406 i1.toNat) → RY d 106 7 [vr 405, vi (wr (i1 + 1))] [] V2 D Q)))) :
    RY d 106 7 [vr 405, vi i1] [] V D Q := yat (c := xk_106) (hd := [1060007]) (dk := []) (dv := [1060024, 1060025]) (nb := [1060011]) rfl h
set_option maxRecDepth 20000 in
theorem u_107_0 {d : Nat} {V : xF} {D : yD} {Q : xRes → xF → yD → Prop}
    (h : ((V 70 5) ≠ 0 → RY d 224 0 [vr 81, vr 103] [] V D (yback d 107 20 [vr 70] [] Q)) ∧ ((V 70 5) = 0 → Q (.inl (some (vi 0))) V D)) :
    RY d 107 0 [vr 70] [] V D Q := yat (c := xk_107) (hd := []) (dk := []) (dv := []) (nb := [1070004]) rfl h
set_option maxRecDepth 20000 in
theorem u_107_20 {d : Nat} {V : xF} {D : yD} {Q : xRes → xF → yD → Prop}
    (h : ∀ V1 : xF, V1 = up2 V 70 8 0 → Q (.inl (some (vi 1))) V1 D) :
    RY d 107 20 [vr 70] [] V D Q := yat (c := xk_107) (hd := []) (dk := []) (dv := []) (nb := []) rfl h
set_option maxRecDepth 20000 in
theorem u_108_0 {d : Nat} {V : xF} {D : yD} {Q : xRes → xF → yD → Prop}
    (h : ∀ V1 : xF, V1 = up2 V 405 0 0 → (((V1 405 3) ≠ 0 → RY d 108 16 [vr 405, vi 0] [] V1 D Q) ∧ ((V1 405 3) = 0 → Q (.inl (some (vi 0))) V1 D))) :
    RY d 108 0 [vr 405, vr 0] [] V D Q := yat (c := xk_108) (hd := [1080016]) (dk := []) (dv := []) (nb := [1080009]) rfl h
set_option maxRecDepth 20000 in
theorem u_108_16 {d : Nat} {i1 : Int} {V : xF} {D : yD} {Q : xRes → xF → yD → Prop}
    (h : ((731 : Int) ≤ i1 → ∀ V1 : xF, V1 = up2 V 405 6 0 → Q (.inl (some (vi 1))) V1 D) ∧ (i1 < 731 → (((0 : Int) ≤ i1 ∧ i1 < (731 : Int)) ∧ ((0 : Int) ≤ i1 ∧ i1 < (731 : Int)) ∧ (∀ V2 : xF, V2 = up2 V 406 i1.toNat (V 407 i1.toNat) → RY d 108 16 [vr 405, vi (wr (i1 + 1))] [] V2 D Q)))) :
    RY d 108 16 [vr 405, vi i1] [] V D Q := yat (c := xk_108) (hd := [1080016]) (dk := []) (dv := [1080033, 1080034]) (nb := [1080020]) rfl h
set_option maxRecDepth 20000 in
theorem u_109_0 {d : Nat} {i1 : Int} {V : xF} {D : yD} {Q : xRes → xF → yD → Prop}
    (h : ((i1 = 0 → Q (.inl (some (vi (V 81 0)))) V D) ∧ (i1 = 1 → Q (.inl (some (vi (V 81 6)))) V D) ∧ (i1 = 2 → Q (.inl (some (vi (V 81 10)))) V D) ∧ (i1 = 3 → ((yK D.2.2.1 81).1 = 10 ∧ D.2.1 81 ≠ 0 ∧ (yK D.2.2.1 (D.2.1 81)).1 = 3 ∧ Q (.inl (some (vi (V (D.2.1 81) 0)))) V D)) ∧ (i1 = 4 → Q (.inl (some (vi (V 81 12)))) V D) ∧ (i1 = 5 → Q (.inl (some (vi (V 81 13)))) V D) ∧ (i1 = 6 → Q (.inl (some (vi (V 81 14)))) V D) ∧ (i1 = 7 → Q (.inl (some (vi (V 81 15)))) V D) ∧ (i1 = 8 → Q (.inl (some (vi (V 81 16)))) V D) ∧ (i1 = 9 → Q (.inl (some (vi (V 81 17)))) V D) ∧ (i1 = 10 → Q (.inl (some (vi (V 81 18)))) V D) ∧ (i1 = 11 → Q (.inl (some (vi (V 90 0)))) V D) ∧ (i1 = 12 → Q (.inl (some (vi (V 90 1)))) V D) ∧ (i1 = 13 → Q (.inl (some (vi (V 70 8)))) V D) ∧ True) ∧ ((i1 < 0 ∨ (0 : Int) + 14 ≤ i1) → Q (.inl (some (vi ((-1))))) V D)) :
    RY d 109 0 [vr 70, vi i1] [] V D Q := yat (c := xk_109) (hd := []) (dk := [1090100, 1090103]) (dv := []) (nb := []) rfl h
set_option maxRecDepth 20000 in
theorem u_110_0 {d : Nat} {i1 : Int} {V : xF} {D : yD} {Q : xRes → xF → yD → Prop}
    (h : ∀ V1 : xF, V1 = up2 V 405 0 0 → ((i1 ≠ 0 → ((i1 ≠ 1 → ((i1 ≠ 2 → ((i1 ≠ 3 → ((i1 ≠ 4 → ((i1 ≠ 5 → (((yr_124 i1 6 11 V1 D) = 0 → ((i1 ≠ 12 → ((i1 ≠ 13 → Q (.inl (some (vi ((-1))))) V1 D) ∧ (i1 = 13 → Q (.inl (some (vi (V1 405 6)))) V1 D))) ∧ (i1 = 12 → Q (.inl (some (vi (V1 406 14)))) V1 D))) ∧ ((yr_124 i1 6 11 V1 D) ≠ 0 → (((0 : Int) ≤ wr ((wr ((8 : Int) + i1)) - 6) ∧ wr ((wr ((8 : Int) + i1)) - 6) < (731 : Int)) ∧ Q (.inl (some (vi (V1 406 ((wr ((wr ((8 : Int) + i1)) - 6)).toNat))))) V1 D)))) ∧ (i1 = 5 → (((V1 406 5) ≠ ((-1)) → Q (.inl (some (vi (wr ((wr ((16 : Int) * (V1 406 6))) + (V1 406 7)))))) V1 D) ∧ ((V1 406 5) = ((-1)) → Q (.inl (some (vi ((-1))))) V1 D))))) ∧ (i1 = 4 → Q (.inl (some (vi (V1 406 5)))) V1 D))) ∧ (i1 = 3 → Q (.inl (some (vi (V1 406 1)))) V1 D))) ∧ (i1 = 2 → Q (.inl (some (vi (V1 406 0)))) V1 D))) ∧ (i1 = 1 → Q (.inl (some (vi (V1 406 4)))) V1 D))) ∧ (i1 = 0 → Q (.inl (some (vi (V1 406 3)))) V1 D))) :
    RY d 110 0 [vr 405, vi i1] [] V D Q := yat (c := xk_110) (hd := []) (dk := []) (dv := [1100124]) (nb := [1100006, 1100018, 1100030, 1100042, 1100054, 1100066, 1100076, 1100110, 1100129, 1100143]) rfl h
set_option maxRecDepth 20000 in
theorem u_122_0 {d : Nat} {i1 : Int} {V : xF} {D : yD} {Q : xRes → xF → yD → Prop}
    (h : RY d 122 3 [vr 76, vi i1, vi 24] [] V D Q) :
    RY d 122 0 [vr 76, vi i1, vr 0] [] V D Q := yat (c := xk_122) (hd := [1220003]) (dk := []) (dv := []) (nb := []) rfl h
set_option maxRecDepth 20000 in
theorem u_122_3 {d : Nat} {i1 i2 : Int} {V : xF} {D : yD} {Q : xRes → xF → yD → Prop}
    (h : (i2 < 0 → Q (.inl none) V D) ∧ ((0 : Int) ≤ i2 → (((400 : Int) ≤ (V 76 1) → Q (.inl none) V D) ∧ ((V 76 1) < 400 → (((0 : Int) ≤ V 76 1 ∧ V 76 1 < (400 : Int)) ∧ (∀ V1 : xF, V1 = up2 V 77 ((V 76 1).toNat) (xand (xshr i1 i2) 255) → ∀ V2 : xF, V2 = up2 V1 76 1 (wr ((V1 76 1) + 1)) → RY d 122 3 [vr 76, vi i1, vi (wr (i2 + (-8)))] [] V2 D Q)))))) :
    RY d 122 3 [vr 76, vi i1, vi i2] [] V D Q := yat (c := xk_122) (hd := [1220003]) (dk := []) (dv := [1220032]) (nb := [1220004, 1220014]) rfl h
set_option maxRecDepth 20000 in
theorem u_123_0 {d : Nat} {i1 : Int} {V : xF} {D : yD} {Q : xRes → xF → yD → Prop}
    (h : (i1 < 0 → Q (.inl (some (vi 0))) V D) ∧ ((0 : Int) ≤ i1 → ((i1 ≤ (V 76 1) → ∀ V1 : xF, V1 = up2 V 76 1 i1 → Q (.inl (some (vi 1))) V1 D) ∧ ((V 76 1) < i1 → Q (.inl (some (vi 0))) V D)))) :
    RY d 123 0 [vr 76, vi i1] [] V D Q := yat (c := xk_123) (hd := []) (dk := []) (dv := []) (nb := [1230001, 1230009]) rfl h
set_option maxRecDepth 20000 in
theorem u_125_0 {d : Nat} {V : xF} {D : yD} {Q : xRes → xF → yD → Prop}
    (h : RY d 224 0 [vr 92, vr 81] [] V D (yback d 125 11 [vr 70, vr 0] [] Q)) :
    RY d 125 0 [vr 70, vr 0] [] V D Q := yat (c := xk_125) (hd := []) (dk := []) (dv := []) (nb := []) rfl h
set_option maxRecDepth 20000 in
theorem u_125_11 {d : Nat} {V : xF} {D : yD} {Q : xRes → xF → yD → Prop}
    (h : RY d 226 0 [vr 247, vr 92, vr 0] [] V D (yback d 125 22 [vr 70, vr 0] [] Q)) :
    RY d 125 11 [vr 70, vr 0] [] V D Q := yat (c := xk_125) (hd := []) (dk := []) (dv := []) (nb := []) rfl h
set_option maxRecDepth 20000 in
theorem u_125_22 {d : Nat} {i_0 : Int} {V : xF} {D : yD} {Q : xRes → xF → yD → Prop}
    (h : (i_0 = 0 → (yg_227 V D ∧ (∀ V1 : xF, V1 = up2 V 70 1 (yr_227 V D) → RY d 123 0 [vr 76, vi 0] [] V1 D (yback d 125 50 [vr 70, vi i_0] [] Q)))) ∧ (i_0 ≠ 0 → ∀ V2 : xF, V2 = up2 V 70 1 ((-1)) → RY d 123 0 [vr 76, vi 0] [] V2 D (yback d 125 50 [vr 70, vi i_0] [] Q))) :
    RY d 125 22 [vr 70, vr 0] [vi i_0] V D Q := yat (c := xk_125) (hd := []) (dk := []) (dv := []) (nb := [1250025]) rfl h
set_option maxRecDepth 20000 in
theorem u_125_50 {d : Nat} {i1 i_0 : Int} {V : xF} {D : yD} {Q : xRes → xF → yD → Prop}
    (h : (i1 ≠ 0 → (((V 81 10) < 12 → RY d 224 0 [vr 81, vr 92] [] V D (yback d 125 94 [vr 70, vi i1] [] Q)) ∧ ((12 : Int) ≤ (V 81 10) → Q (.inr 3) V (D.1, D.2.1, D.2.2.1, D.2.2.2.1, D.2.2.2.2.1 + 1, D.2.2.2.2.2 + 6)))) ∧ (i1 = 0 → Q (.inr 0) V (D.1, D.2.1, D.2.2.1, D.2.2.2.1, D.2.2.2.2.1 + 1, D.2.2.2.2.2 + 6))) :
    RY d 125 50 [vr 70, vi i1] [vi i_0] V D Q := yat (c := xk_125) (hd := []) (dk := []) (dv := []) (nb := [1250052, 1250072]) rfl h
set_option maxRecDepth 20000 in
theorem u_125_94 {d : Nat} {i1 : Int} {V : xF} {D : yD} {Q : xRes → xF → yD → Prop}
    (h : ∀ V1 : xF, V1 = up2 V 81 10 (wr ((V 81 10) + 1)) → ∀ V2 : xF, V2 = up2 V1 70 8 0 → Q (.inl (some (vi (V2 81 10)))) V2 D) :
    RY d 125 94 [vr 70, vi i1] [] V D Q := yat (c := xk_125) (hd := []) (dk := []) (dv := []) (nb := []) rfl h
set_option maxRecDepth 20000 in
theorem u_126_0 {d : Nat} {V : xF} {D : yD} {Q : xRes → xF → yD → Prop}
    (h : RY d 126 2 [vr 405, vi 0] [] V D Q) :
    RY d 126 0 [vr 405, vr 0] [] V D Q := yat (c := xk_126) (hd := [1260002]) (dk := []) (dv := []) (nb := []) rfl h
set_option maxRecDepth 20000 in
theorem u_126_2 {d : Nat} {i1 : Int} {V : xF} {D : yD} {Q : xRes → xF → yD → Prop}
    (h : ((331 : Int) ≤ i1 → Q (.inl none) V D) ∧ (i1 < 331 → (((0 : Int) ≤ i1 ∧ i1 < (731 : Int)) ∧ ((0 : Int) ≤ i1 ∧ i1 < (331 : Int)) ∧ (∀ V1 : xF, V1 = up2 V 408 i1.toNat (V 406 i1.toNat) → RY d 126 2 [vr 405, vi (wr (i1 + 1))] [] V1 D Q)))) :
    RY d 126 2 [vr 405, vi i1] [] V D Q := yat (c := xk_126) (hd := [1260002]) (dk := []) (dv := [1260019, 1260020]) (nb := [1260006]) rfl h
set_option maxRecDepth 20000 in
theorem u_128_0 {d : Nat} {i1 : Int} {V : xF} {D : yD} {Q : xRes → xF → yD → Prop}
    (h : RY d 228 0 [vr 405] [] V D (yback d 128 4 [vr 405, vi i1, vr 0, vr 0] [] Q)) :
    RY d 128 0 [vr 405, vi i1, vr 0, vr 0] [] V D Q := yat (c := xk_128) (hd := [1280023]) (dk := []) (dv := []) (nb := []) rfl h
set_option maxRecDepth 20000 in
theorem u_128_4 {d : Nat} {i1 : Int} {V : xF} {D : yD} {Q : xRes → xF → yD → Prop}
    (h : ((V 405 10) ≤ (V 405 11) → RY d 128 23 [vr 405, vi i1, vi 0, vi 0] [] V D Q) ∧ ((V 405 11) < (V 405 10) → RY d 128 23 [vr 405, vi i1, vi 1, vi 0] [] V D Q)) :
    RY d 128 4 [vr 405, vi i1, vr 0, vr 0] [] V D Q := yat (c := xk_128) (hd := [1280023]) (dk := []) (dv := []) (nb := [1280012]) rfl h
set_option maxRecDepth 20000 in
theorem u_128_23 {d : Nat} {i1 i2 i3 : Int} {V : xF} {D : yD} {Q : xRes → xF → yD → Prop}
    (h : (i2 = 0 → Q (.inl (some (vi i3))) V D) ∧ (i2 ≠ 0 → (((V 405 12) ≠ ((-1)) → Q (.inl (some (vi i3))) V D) ∧ ((V 405 12) = ((-1)) → RY d 228 0 [vr 405] [] V D (yback d 128 39 [vr 405, vi i1, vi i2, vi i3] [] Q))))) :
    RY d 128 23 [vr 405, vi i1, vi i2, vi i3] [] V D Q := yat (c := xk_128) (hd := [1280023]) (dk := []) (dv := []) (nb := [1280024, 1280032]) rfl h
set_option maxRecDepth 20000 in
theorem u_128_39 {d : Nat} {i1 i2 i3 : Int} {V : xF} {D : yD} {Q : xRes → xF → yD → Prop}
    (h : (i1 = 0 → ((i3 ≠ 14 → ((i1 = 0 → RY d 231 0 [vr 405, vr 0, vr 0] [] V D (yback d 128 80 [vr 405, vi i1, vi i2, vi i3] [] Q)) ∧ (i1 ≠ 0 → RY d 230 0 [vr 405, vr 0, vr 0, vr 0] [] V D (yback d 128 73 [vr 405, vi i1, vi i2, vi i3] [] Q)))) ∧ (i3 = 14 → (((V 405 12) ≠ ((-1)) → RY d 228 0 [vr 405] [] V D (yback d 128 87 [vr 405, vi i1, vi i2, vi (wr (i3 + 1))] [] Q)) ∧ ((V 405 12) = ((-1)) → ∀ V1 : xF, V1 = up2 V 405 12 (V 405 11) → RY d 228 0 [vr 405] [] V1 D (yback d 128 87 [vr 405, vi i1, vi i2, vi (wr (i3 + 1))] [] Q)))))) ∧ (i1 ≠ 0 → ((i3 ≠ 12 → ((i1 = 0 → RY d 231 0 [vr 405, vr 0, vr 0] [] V D (yback d 128 80 [vr 405, vi i1, vi i2, vi i3] [] Q)) ∧ (i1 ≠ 0 → RY d 230 0 [vr 405, vr 0, vr 0, vr 0] [] V D (yback d 128 73 [vr 405, vi i1, vi i2, vi i3] [] Q)))) ∧ (i3 = 12 → (((V 405 12) ≠ ((-1)) → RY d 228 0 [vr 405] [] V D (yback d 128 87 [vr 405, vi i1, vi i2, vi (wr (i3 + 1))] [] Q)) ∧ ((V 405 12) = ((-1)) → ∀ V2 : xF, V2 = up2 V 405 12 (V 405 11) → RY d 228 0 [vr 405] [] V2 D (yback d 128 87 [vr 405, vi i1, vi i2, vi (wr (i3 + 1))] [] Q))))))) :
    RY d 128 39 [vr 405, vi i1, vi i2, vi i3] [] V D Q := yat (c := xk_128) (hd := [1280023]) (dk := []) (dv := []) (nb := [1280041, 1280051, 1280066, 2290005]) rfl h
set_option maxRecDepth 20000 in
theorem u_128_73 {d : Nat} {i1 i2 i3 : Int} {V : xF} {D : yD} {Q : xRes → xF → yD → Prop}
    (h : RY d 228 0 [vr 405] [] V D (yback d 128 87 [vr 405, vi i1, vi i2, vi (wr (i3 + 1))] [] Q)) :
    RY d 128 73 [vr 405, vi i1, vi i2, vi i3] [] V D Q := yat (c := xk_128) (hd := [1280023]) (dk := []) (dv := []) (nb := []) rfl h
set_option maxRecDepth 20000 in
theorem u_128_80 {d : Nat} {i1 i2 i3 : Int} {V : xF} {D : yD} {Q : xRes → xF → yD → Prop}
    (h : RY d 228 0 [vr 405] [] V D (yback d 128 87 [vr 405, vi i1, vi i2, vi (wr (i3 + 1))] [] Q)) :
    RY d 128 80 [vr 405, vi i1, vi i2, vi i3] [] V D Q := yat (c := xk_128) (hd := [1280023]) (dk := []) (dv := []) (nb := []) rfl h
set_option maxRecDepth 20000 in
theorem u_128_87 {d : Nat} {i1 i2 i3 : Int} {V : xF} {D : yD} {Q : xRes → xF → yD → Prop}
    (h : ((V 405 12) ≠ ((-1)) → RY d 128 23 [vr 405, vi i1, vi 0, vi i3] [] V D Q) ∧ ((V 405 12) = ((-1)) → (((V 405 11) ≠ (V 405 10) → RY d 232 0 [vr 405, vi 59] [] V D (yback d 128 117 [vr 405, vi i1, vi i2, vi i3] [] Q)) ∧ ((V 405 11) = (V 405 10) → RY d 128 23 [vr 405, vi i1, vi 0, vi i3] [] V D Q)))) :
    RY d 128 87 [vr 405, vi i1, vi i2, vi i3] [] V D Q := yat (c := xk_128) (hd := [1280023]) (dk := []) (dv := []) (nb := [1280092, 1280103]) rfl h
set_option maxRecDepth 20000 in
theorem u_128_117 {d : Nat} {i1 i2 i3 i_0 : Int} {V : xF} {D : yD} {Q : xRes → xF → yD → Prop}
    (h : (i_0 = 0 → (((V 405 12) ≠ ((-1)) → RY d 128 23 [vr 405, vi i1, vi i2, vi i3] [] V D Q) ∧ ((V 405 12) = ((-1)) → ∀ V1 : xF, V1 = up2 V 405 12 (V 405 11) → RY d 128 23 [vr 405, vi i1, vi i2, vi i3] [] V1 D Q))) ∧ (i_0 ≠ 0 → ∀ V2 : xF, V2 = up2 V 405 11 (wr ((V 405 11) + 1)) → RY d 128 23 [vr 405, vi i1, vi i2, vi i3] [] V2 D Q)) :
    RY d 128 117 [vr 405, vi i1, vi i2, vi i3] [vi i_0] V D Q := yat (c := xk_128) (hd := [1280023]) (dk := []) (dv := []) (nb := [1280117, 2290005]) rfl h
set_option maxRecDepth 20000 in
theorem u_129_0 {d : Nat} {V : xF} {D : yD} {Q : xRes → xF → yD → Prop}
    (h : RY d 129 2 [vr 405, vi 0] [] V D Q) :
    RY d 129 0 [vr 405, vr 0] [] V D Q := yat (c := xk_129) (hd := [1290002]) (dk := []) (dv := []) (nb := []) rfl h
set_option maxRecDepth 20000 in
theorem u_129_2 {d : Nat} {i1 : Int} {V : xF} {D : yD} {Q : xRes → xF → yD → Prop}
    (h : ((331 : Int) ≤ i1 → Q (.inl none) V D) ∧ (i1 < 331 → (((0 : Int) ≤ i1 ∧ i1 < (331 : Int)) ∧ ((0 : Int) ≤ i1 ∧ i1 < (731 : Int)) ∧ (∀ V1 : xF, V1 = up2 V 406 i1.toNat (V 408 i1.toNat) → RY d 129 2 [vr 405, vi (wr (i1 + 1))] [] V1 D Q)))) :
    RY d 129 2 [vr 405, vi i1] [] V D Q := yat (c := xk_129) (hd := [1290002]) (dk := []) (dv := [1290019, 1290020]) (nb := [1290006]) rfl h
set_option maxRecDepth 20000 in
theorem u_130_0 {d : Nat} {V : xF} {D : yD} {Q : xRes → xF → yD → Prop}
    (h : RY d 233 0 [vr 248] [] V D (yback d 130 7 [vr 70, vr 0] [] Q)) :
    RY d 130 0 [vr 70, vr 0] [] V D Q := yat (c := xk_130) (hd := []) (dk := []) (dv := []) (nb := []) rfl h
set_option maxRecDepth 20000 in
theorem u_130_7 {d : Nat} {i_0 : Int} {V : xF} {D : yD} {Q : xRes → xF → yD → Prop}
    (h : (i_0 = 0 → (yg_227 V D ∧ (∀ V1 : xF, V1 = up2 V 70 1 (yr_227 V D) → RY d 123 0 [vr 76, vi 0] [] V1 D (yback d 130 35 [vr 70, vi i_0] [] Q)))) ∧ (i_0 ≠ 0 → ∀ V2 : xF, V2 = up2 V 70 1 ((-1)) → RY d 123 0 [vr 76, vi 0] [] V2 D (yback d 130 35 [vr 70, vi i_0] [] Q))) :
    RY d 130 7 [vr 70, vr 0] [vi i_0] V D Q := yat (c := xk_130) (hd := []) (dk := []) (dv := []) (nb := [1300010]) rfl h
set_option maxRecDepth 20000 in
theorem u_130_35 {d : Nat} {i1 i_0 : Int} {V : xF} {D : yD} {Q : xRes → xF → yD → Prop}
    (h : (i1 ≠ 0 → RY d 234 0 [vr 248] [] V D (yback d 130 59 [vr 70, vi i1] [vr 81] Q)) ∧ (i1 = 0 → Q (.inr 0) V (D.1, D.2.1, D.2.2.1, D.2.2.2.1, D.2.2.2.2.1 + 1, D.2.2.2.2.2 + 6))) :
    RY d 130 35 [vr 70, vi i1] [vi i_0] V D Q := yat (c := xk_130) (hd := []) (dk := []) (dv := []) (nb := [1300037]) rfl h
set_option maxRecDepth 20000 in
theorem u_130_59 {d : Nat} {a_1 : Nat} {i1 : Int} {V : xF} {D : yD} {Q : xRes → xF → yD → Prop}
    (h : (yK D.2.2.1 81).1 = 10 ∧ a_1 ≠ 0 ∧ yst 81 = true ∧ (∀ D1 : yD, D1 = (D.1, up1 D.2.1 81 a_1, D.2.2) → ∀ V2 : xF, V2 = up2 V 70 8 0 → ((yK D1.2.2.1 81).1 = 10 ∧ D1.2.1 81 ≠ 0 ∧ (yK D1.2.2.1 (D1.2.1 81)).1 = 3 ∧ Q (.inl (some (vi (V2 (D1.2.1 81) 0)))) V2 D1))) :
    RY d 130 59 [vr 70, vi i1] [vr a_1, vr 81] V D Q := yat (c := xk_130) (hd := []) (dk := [1300059, 1300071, 1300074]) (dv := []) (nb := []) rfl h
set_option maxRecDepth 20000 in
theorem u_131_0 {d : Nat} {i1 i2 : Int} {V : xF} {D : yD} {Q : xRes → xF → yD → Prop}
    (h : RY d 235 0 [vr 70, vi i1] [] V D (yback d 131 5 [vr 70, vi i1, vi i2] [] Q)) :
    RY d 131 0 [vr 70, vi i1, vi i2] [] V D Q := yat (c := xk_131) (hd := [1310096]) (dk := []) (dv := []) (nb := []) rfl h
set_option maxRecDepth 20000 in
theorem u_131_5 {d : Nat} {i1 i2 : Int} {V : xF} {D : yD} {Q : xRes → xF → yD → Prop}
    (h : ((i2 = 0 → (((0 : Int) ≤ i1 ∧ i1 < (5 : Int)) ∧ Q (.inl (some (vi (V 82 i1.toNat)))) V D)) ∧ (i2 = 1 → (((0 : Int) ≤ i1 ∧ i1 < (5 : Int)) ∧ Q (.inl (some (vi (V 83 i1.toNat)))) V D)) ∧ (i2 = 2 → RY d 131 96 [vr 70, vi i1, vi i2] [] V D Q) ∧ (i2 = 3 → RY d 131 96 [vr 70, vi i1, vi i2] [] V D Q) ∧ (i2 = 4 → RY d 131 96 [vr 70, vi i1, vi i2] [] V D Q) ∧ (i2 = 5 → RY d 131 96 [vr 70, vi i1, vi i2] [] V D Q) ∧ (i2 = 6 → (((0 : Int) ≤ i1 ∧ i1 < (5 : Int)) ∧ Q (.inl (some (vi (V 85 i1.toNat)))) V D)) ∧ (i2 = 7 → RY d 236 0 [vr 81, vi i1, vr 0] [] V D (yback d 131 130 [vr 70, vi i1, vi i2] [] Q)) ∧ (i2 = 8 → (yg_211_81 i1 V D ∧ RY d 212 0 [vr 254, vr 81, vi i1, vi (yr_211_81 i1 V D), vr 253, vr 0, vr 0, vr 0] [] V D (yback d 131 155 [vr 70, vi i1, vi i2] [] Q))) ∧ (i2 = 9 → RY d 237 0 [vr 256, vr 81, vi i1, vr 0, vr 0] [] V D (yback d 131 175 [vr 70, vi i1, vi i2] [] Q)) ∧ (i2 = 10 → RY d 238 0 [vr 256, vr 81, vi i1, vr 0, vr 0, vr 0, vr 0] [] V D (yback d 131 188 [vr 70, vi i1, vi i2] [] Q)) ∧ (i2 = 11 → RY d 224 0 [vr 92, vr 81] [] V D (yback d 131 200 [vr 70, vi i1, vi i2] [] Q)) ∧ (i2 = 12 → RY d 204 0 [vr 390, vr 81, vr 0, vr 0] [] V D (yback d 131 224 [vr 70, vi i1, vi i2] [] Q)) ∧ (i2 = 13 → RY d 241 0 [vr 390, vr 81, vi i1, vr 0] [] V D (yback d 131 249 [vr 70, vi i1, vi i2] [] Q)) ∧ True) ∧ ((i2 < 0 ∨ (0 : Int) + 14 ≤ i2) → Q (.inr 4) V (D.1, D.2.1, D.2.2.1, D.2.2.2.1, D.2.2.2.2.1 + 1, D.2.2.2.2.2 + 6))) :
    RY d 131 5 [vr 70, vi i1, vi i2] [] V D Q := yat (c := xk_131) (hd := [1310096]) (dk := []) (dv := [1310084, 1310094, 1310120]) (nb := []) rfl h
set_option maxRecDepth 20000 in
theorem u_131_96 {d : Nat} {i1 i2 : Int} {V : xF} {D : yD} {Q : xRes → xF → yD → Prop}
    (h : ((0 : Int) ≤ wr ((wr ((wr ((4 : Int) * i1)) + i2)) - 2) ∧ wr ((wr ((wr ((4 : Int) * i1)) + i2)) - 2) < (20 : Int)) ∧ Q (.inl (some (vi (V 84 ((wr ((wr ((wr ((4 : Int) * i1)) + i2)) - 2)).toNat))))) V D) :
    RY d 131 96 [vr 70, vi i1, vi i2] [] V D Q := yat (c := xk_131) (hd := [1310096]) (dk := []) (dv := [1310110]) (nb := []) rfl h
set_option maxRecDepth 20000 in
theorem u_131_130 {d : Nat} {i1 i2 i_0 : Int} {V : xF} {D : yD} {Q : xRes → xF → yD → Prop}
    (h : Q (.inl (some (vi i_0))) V D) :
    RY d 131 130 [vr 70, vi i1, vi i2] [vi i_0] V D Q := yat (c := xk_131) (hd := [1310096]) (dk := []) (dv := []) (nb := []) rfl h
set_option maxRecDepth 20000 in
theorem u_131_155 {d : Nat} {i1 i2 : Int} {V : xF} {D : yD} {Q : xRes → xF → yD → Prop}
    (h : RY d 213 0 [vr 253, vr 0, vr 0] [] V D (yback d 131 162 [vr 70, vi i1, vi i2] [] Q)) :
    RY d 131 155 [vr 70, vi i1, vi i2] [] V D Q := yat (c := xk_131) (hd := [1310096]) (dk := []) (dv := []) (nb := []) rfl h
set_option maxRecDepth 20000 in
theorem u_131_162 {d : Nat} {i1 i2 i_0 : Int} {V : xF} {D : yD} {Q : xRes → xF → yD → Prop}
    (h : Q (.inl (some (vi i_0))) V D) :
    RY d 131 162 [vr 70, vi i1, vi i2] [vi i_0] V D Q := yat (c := xk_131) (hd := [1310096]) (dk := []) (dv := []) (nb := []) rfl h
set_option maxRecDepth 20000 in
theorem u_131_175 {d : Nat} {i1 i2 i_0 : Int} {V : xF} {D : yD} {Q : xRes → xF → yD → Prop}
    (h : Q (.inl (some (vi i_0))) V D) :
    RY d 131 175 [vr 70, vi i1, vi i2] [vi i_0] V D Q := yat (c := xk_131) (hd := [1310096]) (dk := []) (dv := []) (nb := []) rfl h
set_option maxRecDepth 20000 in
theorem u_131_188 {d : Nat} {i1 i2 i_0 : Int} {V : xF} {D : yD} {Q : xRes → xF → yD → Prop}
    (h : Q (.inl (some (vi i_0))) V D) :
    RY d 131 188 [vr 70, vi i1, vi i2] [vi i_0] V D Q := yat (c := xk_131) (hd := [1310096]) (dk := []) (dv := []) (nb := []) rfl h
set_option maxRecDepth 20000 in
theorem u_131_200 {d : Nat} {i1 i2 : Int} {V : xF} {D : yD} {Q : xRes → xF → yD → Prop}
    (h : RY d 239 0 [vr 382, vr 92, vi i1, vr 0, vr 0, vr 0, vr 0, vr 0] [] V D (yback d 131 212 [vr 70, vi i1, vi i2] [] Q)) :
    RY d 131 200 [vr 70, vi i1, vi i2] [] V D Q := yat (c := xk_131) (hd := [1310096]) (dk := []) (dv := []) (nb := []) rfl h
set_option maxRecDepth 20000 in
theorem u_131_212 {d : Nat} {i1 i2 i_0 : Int} {V : xF} {D : yD} {Q : xRes → xF → yD → Prop}
    (h : Q (.inl (some (vi i_0))) V D) :
    RY d 131 212 [vr 70, vi i1, vi i2] [vi i_0] V D Q := yat (c := xk_131) (hd := [1310096]) (dk := []) (dv := []) (nb := []) rfl h
set_option maxRecDepth 20000 in
theorem u_131_224 {d : Nat} {i1 i2 : Int} {V : xF} {D : yD} {Q : xRes → xF → yD → Prop}
    (h : RY d 240 0 [vr 390, vr 81, vi i1, vr 0, vr 0, vr 0, vr 0] [] V D (yback d 131 236 [vr 70, vi i1, vi i2] [] Q)) :
    RY d 131 224 [vr 70, vi i1, vi i2] [] V D Q := yat (c := xk_131) (hd := [1310096]) (dk := []) (dv := []) (nb := []) rfl h
set_option maxRecDepth 20000 in
theorem u_131_236 {d : Nat} {i1 i2 i_0 : Int} {V : xF} {D : yD} {Q : xRes → xF → yD → Prop}
    (h : Q (.inl (some (vi i_0))) V D) :
    RY d 131 236 [vr 70, vi i1, vi i2] [vi i_0] V D Q := yat (c := xk_131) (hd := [1310096]) (dk := []) (dv := []) (nb := []) rfl h
set_option maxRecDepth 20000 in
theorem u_131_249 {d : Nat} {i1 i2 i_0 : Int} {V : xF} {D : yD} {Q : xRes → xF → yD → Prop}
    (h : Q (.inl (some (vi i_0))) V D) :
    RY d 131 249 [vr 70, vi i1, vi i2] [vi i_0] V D Q := yat (c := xk_131) (hd := [1310096]) (dk := []) (dv := []) (nb := []) rfl h
set_option maxRecDepth 20000 in
theorem u_134_0 {d : Nat} {i1 : Int} {V : xF} {D : yD} {Q : xRes → xF → yD → Prop}
    (h : RY d 134 4 [vr 405, vi i1, vi ((-1)), vi 0] [] V D Q) :
    RY d 134 0 [vr 405, vi i1, vr 0, vr 0] [] V D Q := yat (c := xk_134) (hd := [1340004]) (dk := []) (dv := []) (nb := []) rfl h
set_option maxRecDepth 20000 in
theorem u_134_4 {d : Nat} {i1 i2 i3 : Int} {V : xF} {D : yD} {Q : xRes → xF → yD → Prop}
    (h : ((V 406 4) ≤ i3 → Q (.inl (some (vi i2))) V D) ∧ (i3 < (V 406 4) → (yg_143 i3 2 V D ∧ (((yr_143 i3 2 V D) ≠ i1 → RY d 134 4 [vr 405, vi i1, vi i2, vi (wr (i3 + 1))] [] V D Q) ∧ ((yr_143 i3 2 V D) = i1 → RY d 134 4 [vr 405, vi i1, vi i3, vi (wr (i3 + 1))] [] V D Q))))) :
    RY d 134 4 [vr 405, vi i1, vi i2, vi i3] [] V D Q := yat (c := xk_134) (hd := [1340004]) (dk := []) (dv := []) (nb := [1340011, 1340021]) rfl h
set_option maxRecDepth 20000 in
theorem u_135_0 {d : Nat} {i1 : Int} {V : xF} {D : yD} {Q : xRes → xF → yD → Prop}
    (h : yg_133 i1 0 V D ∧ yg_133 i1 1 V D ∧ RY d 155 0 [vr 405, vi i1, vi (wr ((yr_133 i1 0 V D).tdiv 2)), vi (wr ((yr_133 i1 1 V D).tdiv 2)), vr 0, vr 0, vr 0, vr 0] [] V D (yback d 135 21 [vr 405, vi i1] [] Q)) :
    RY d 135 0 [vr 405, vi i1] [] V D Q := yat (c := xk_135) (hd := []) (dk := []) (dv := []) (nb := []) rfl h
set_option maxRecDepth 20000 in
theorem u_135_21 {d : Nat} {i1 i_0 : Int} {V : xF} {D : yD} {Q : xRes → xF → yD → Prop}
    (h : Q (.inl (some (vi i_0))) V D) :
    RY d 135 21 [vr 405, vi i1] [vi i_0] V D Q := yat (c := xk_135) (hd := []) (dk := []) (dv := []) (nb := []) rfl h
set_option maxRecDepth 20000 in
theorem u_136_0 {d : Nat} {i1 : Int} {V : xF} {D : yD} {Q : xRes → xF → yD → Prop}
    (h : RY d 136 4 [vr 405, vi i1, vi 0, vi 1, vr 0] [] V D Q) :
    RY d 136 0 [vr 405, vi i1, vr 0, vr 0, vr 0] [] V D Q := yat (c := xk_136) (hd := [1360004, 1360017]) (dk := []) (dv := []) (nb := []) rfl h
set_option maxRecDepth 20000 in
theorem u_136_4 {d : Nat} {i1 i2 i3 : Int} {v4 : xV} {V : xF} {D : yD} {Q : xRes → xF → yD → Prop}
    (h : yg_133 i1 0 V D ∧ (((yr_133 i1 0 V D) ≤ i3 → Q (.inl (some (vi i2))) V D) ∧ (i3 < (yr_133 i1 0 V D) → RY d 136 17 [vr 405, vi i1, vi i2, vi i3, vi 1] [] V D Q))) :
    RY d 136 4 [vr 405, vi i1, vi i2, vi i3, v4] [] V D Q := yat (c := xk_136) (hd := [1360004, 1360017]) (dk := []) (dv := []) (nb := [1360011]) rfl h
set_option maxRecDepth 20000 in
theorem u_136_17 {d : Nat} {i1 i2 i3 i4 : Int} {V : xF} {D : yD} {Q : xRes → xF → yD → Prop}
    (h : yg_133 i1 1 V D ∧ (((yr_133 i1 1 V D) ≤ i4 → RY d 136 4 [vr 405, vi i1, vi i2, vi (wr (i3 + 1)), vi i4] [] V D Q) ∧ (i4 < (yr_133 i1 1 V D) → RY d 155 0 [vr 405, vi i1, vi i3, vi i4, vr 0, vr 0, vr 0, vr 0] [] V D (yback d 136 37 [vr 405, vi i1, vi i2, vi i3, vi i4] [vi i2] Q)))) :
    RY d 136 17 [vr 405, vi i1, vi i2, vi i3, vi i4] [] V D Q := yat (c := xk_136) (hd := [1360004, 1360017]) (dk := []) (dv := []) (nb := [1360025]) rfl h
set_option maxRecDepth 20000 in
theorem u_136_37 {d : Nat} {i1 i2 i3 i4 i_0 i_1 : Int} {V : xF} {D : yD} {Q : xRes → xF → yD → Prop}
    (h : (i_1 ≠ 0 → RY d 136 17 [vr 405, vi i1, vi (wr (i_0 + 0)), vi i3, vi (wr (i4 + 1))] [] V D Q) ∧ (i_1 = 0 → RY d 136 17 [vr 405, vi i1, vi (wr (i_0 + 1)), vi i3, vi (wr (i4 + 1))] [] V D Q)) :
    RY d 136 37 [vr 405, vi i1, vi i2, vi i3, vi i4] [vi i_1, vi i_0] V D Q := yat (c := xk_136) (hd := [1360004, 1360017]) (dk := []) (dv := []) (nb := [1360037]) rfl h
set_option maxRecDepth 20000 in
theorem u_137_0 {d : Nat} {i1 : Int} {V : xF} {D : yD} {Q : xRes → xF → yD → Prop}
    (h : RY d 137 7 [vr 405, vi i1, vi ((-1)), vi ((-1)), vi 1, vr 0, vr 0] [] V D Q) :
    RY d 137 0 [vr 405, vi i1, vr 0, vr 0, vr 0, vr 0, vr 0] [] V D Q := yat (c := xk_137) (hd := [1370007, 1370021]) (dk := []) (dv := []) (nb := []) rfl h
set_option maxRecDepth 20000 in
theorem u_137_7 {d : Nat} {i1 i2 i3 i4 : Int} {v5 v6 : xV} {V : xF} {D : yD} {Q : xRes → xF → yD → Prop}
    (h : yg_133 i1 0 V D ∧ (((yr_133 i1 0 V D) ≤ i4 → Q (.inl (some (vi i2))) V D) ∧ (i4 < (yr_133 i1 0 V D) → RY d 137 21 [vr 405, vi i1, vi i2, vi i3, vi i4, vi 1, v6] [] V D Q))) :
    RY d 137 7 [vr 405, vi i1, vi i2, vi i3, vi i4, v5, v6] [] V D Q := yat (c := xk_137) (hd := [1370007, 1370021]) (dk := []) (dv := []) (nb := [1370015]) rfl h
set_option maxRecDepth 20000 in
theorem u_137_21 {d : Nat} {i1 i2 i3 i4 i5 : Int} {v6 : xV} {V : xF} {D : yD} {Q : xRes → xF → yD → Prop}
    (h : yg_133 i1 1 V D ∧ (((yr_133 i1 1 V D) ≤ i5 → RY d 137 7 [vr 405, vi i1, vi i2, vi i3, vi (wr (i4 + 1)), vi i5, v6] [] V D Q) ∧ (i5 < (yr_133 i1 1 V D) → RY d 155 0 [vr 405, vi i1, vi i4, vi i5, vr 0, vr 0, vr 0, vr 0] [] V D (yback d 137 41 [vr 405, vi i1, vi i2, vi i3, vi i4, vi i5, v6] [] Q)))) :
    RY d 137 21 [vr 405, vi i1, vi i2, vi i3, vi i4, vi i5, v6] [] V D Q := yat (c := xk_137) (hd := [1370007, 1370021]) (dk := []) (dv := []) (nb := [1370029]) rfl h
set_option maxRecDepth 20000 in
theorem u_137_41 {d : Nat} {i1 i2 i3 i4 i5 i_0 : Int} {v6 : xV} {V : xF} {D : yD} {Q : xRes → xF → yD → Prop}
    (h : (i3 < i_0 → RY d 137 21 [vr 405, vi i1, vi (wr ((wr ((16 : Int) * i4)) + i5)), vi i_0, vi i4, vi (wr (i5 + 1)), vi i_0] [] V D Q) ∧ (i_0 ≤ i3 → RY d 137 21 [vr 405, vi i1, vi i2, vi i3, vi i4, vi (wr (i5 + 1)), vi i_0] [] V D Q)) :
    RY d 137 41 [vr 405, vi i1, vi i2, vi i3, vi i4, vi i5, v6] [vi i_0] V D Q := yat (c := xk_137) (hd := [1370007, 1370021]) (dk := []) (dv := []) (nb := [1370046]) rfl h
set_option maxRecDepth 20000 in
theorem u_138_0 {d : Nat} {i1 : Int} {V : xF} {D : yD} {Q : xRes → xF → yD → Prop}
    (h : RY d 138 9 [vr 405, vi i1, vi ((-1)), vi 2000000000, vi 0, vr 0, vr 0, vr 0] [] V D Q) :
    RY d 138 0 [vr 405, vi i1, vr 0, vr 0, vr 0, vr 0, vr 0, vr 0] [] V D Q := yat (c := xk_138) (hd := [1380009, 1380087]) (dk := []) (dv := []) (nb := []) rfl h
set_option maxRecDepth 20000 in
theorem u_138_9 {d : Nat} {i1 i2 i3 i4 : Int} {v5 v6 v7 : xV} {V : xF} {D : yD} {Q : xRes → xF → yD → Prop}
    (h : ((4 : Int) ≤ i4 → Q (.inl (some (vi i2))) V D) ∧ (i4 < 4 → RY d 135 0 [vr 405, vi i1] [] V D (yback d 138 20 [vr 405, vi i1, vi i2, vi i3, vi i4, v5, v6, v7] [] Q))) :
    RY d 138 9 [vr 405, vi i1, vi i2, vi i3, vi i4, v5, v6, v7] [] V D Q := yat (c := xk_138) (hd := [1380009, 1380087]) (dk := []) (dv := []) (nb := [1380012]) rfl h
set_option maxRecDepth 20000 in
theorem u_138_20 {d : Nat} {i1 i2 i3 i4 i_0 : Int} {v5 v6 v7 : xV} {V : xF} {D : yD} {Q : xRes → xF → yD → Prop}
    (h : RY d 194 0 [vr 405, vr 0] [] V D (yback d 138 26 [vr 405, vi i1, vi i2, vi i3, vi i4, vi i_0, v6, v7] [] Q)) :
    RY d 138 20 [vr 405, vi i1, vi i2, vi i3, vi i4, v5, v6, v7] [vi i_0] V D Q := yat (c := xk_138) (hd := [1380009, 1380087]) (dk := []) (dv := []) (nb := []) rfl h
set_option maxRecDepth 20000 in
theorem u_138_26 {d : Nat} {i1 i2 i3 i4 i5 : Int} {v6 v7 : xV} {V : xF} {D : yD} {Q : xRes → xF → yD → Prop}
    (h : yg_133 i1 (wr ((2 : Int) + i4)) V D ∧ ((0 : Int) ≤ wr ((wr ((wr ((16 : Int) + (wr ((7 : Int) * i1)))) + 2)) + i4) ∧ wr ((wr ((wr ((16 : Int) + (wr ((7 : Int) * i1)))) + 2)) + i4) < (731 : Int)) ∧ (∀ V1 : xF, V1 = up2 V 406 ((wr ((wr ((wr ((16 : Int) + (wr ((7 : Int) * i1)))) + 2)) + i4)).toNat) 0 → RY d 135 0 [vr 405, vi i1] [] V1 D (yback d 138 60 [vr 405, vi i1, vi i2, vi i3, vi i4, vi i5, vi (yr_133 i1 (wr ((2 : Int) + i4)) V D), v7] [] Q))) :
    RY d 138 26 [vr 405, vi i1, vi i2, vi i3, vi i4, vi i5, v6, v7] [] V D Q := yat (c := xk_138) (hd := [1380009, 1380087]) (dk := []) (dv := [1380054]) (nb := []) rfl h
set_option maxRecDepth 20000 in
theorem u_138_60 {d : Nat} {i1 i2 i3 i4 i5 i6 i_0 : Int} {v7 : xV} {V : xF} {D : yD} {Q : xRes → xF → yD → Prop}
    (h : ((0 : Int) ≤ wr ((wr ((wr ((16 : Int) + (wr ((7 : Int) * i1)))) + 2)) + i4) ∧ wr ((wr ((wr ((16 : Int) + (wr ((7 : Int) * i1)))) + 2)) + i4) < (731 : Int)) ∧ (∀ V1 : xF, V1 = up2 V 406 ((wr ((wr ((wr ((16 : Int) + (wr ((7 : Int) * i1)))) + 2)) + i4)).toNat) i6 → RY d 138 87 [vr 405, vi i1, vi i2, vi i3, vi i4, vi 0, vi i6, vi 0] [] V1 D Q)) :
    RY d 138 60 [vr 405, vi i1, vi i2, vi i3, vi i4, vi i5, vi i6, v7] [vi i_0] V D Q := yat (c := xk_138) (hd := [1380009, 1380087]) (dk := []) (dv := [1380080]) (nb := []) rfl h
set_option maxRecDepth 20000 in
theorem u_138_87 {d : Nat} {i1 i2 i3 i4 i5 i6 i7 : Int} {V : xF} {D : yD} {Q : xRes → xF → yD → Prop}
    (h : ((64 : Int) ≤ i7 → ((i5 < i3 → RY d 138 9 [vr 405, vi i1, vi i4, vi i5, vi (wr (i4 + 1)), vi i5, vi i6, vi i7] [] V D Q) ∧ (i3 ≤ i5 → RY d 138 9 [vr 405, vi i1, vi i2, vi i3, vi (wr (i4 + 1)), vi i5, vi i6, vi i7] [] V D Q))) ∧ (i7 < 64 → (((0 : Int) ≤ i7 ∧ i7 < (64 : Int)) ∧ ((0 : Int) ≤ i7 ∧ i7 < (64 : Int)) ∧ (((V 414 i7.toNat) ≤ (V 412 i7.toNat) → RY d 138 87 [vr 405, vi i1, vi i2, vi i3, vi i4, vi (wr (i5 + 0)), vi i6, vi (wr (i7 + 1))] [] V D Q) ∧ ((V 412 i7.toNat) < (V 414 i7.toNat) → RY d 138 87 [vr 405, vi i1, vi i2, vi i3, vi i4, vi (wr (i5 + 1)), vi i6, vi (wr (i7 + 1))] [] V D Q))))) :
    RY d 138 87 [vr 405, vi i1, vi i2, vi i3, vi i4, vi i5, vi i6, vi i7] [] V D Q := yat (c := xk_138) (hd := [1380009, 1380087]) (dk := []) (dv := [1380102, 1380109]) (nb := [1380091, 1380110, 1380130]) rfl h
set_option maxRecDepth 20000 in
theorem u_139_0 {d : Nat} {i1 : Int} {V : xF} {D : yD} {Q : xRes → xF → yD → Prop}
    (h : RY d 139 4 [vr 405, vi i1, vi 0, vi 1] [] V D Q) :
    RY d 139 0 [vr 405, vi i1, vr 0, vr 0] [] V D Q := yat (c := xk_139) (hd := [1390004]) (dk := []) (dv := []) (nb := []) rfl h
set_option maxRecDepth 20000 in
theorem u_139_4 {d : Nat} {i1 i2 i3 : Int} {V : xF} {D : yD} {Q : xRes → xF → yD → Prop}
    (h : ((100 : Int) ≤ i3 → Q (.inl (some (vi i2))) V D) ∧ (i3 < 100 → RY d 207 0 [vr 405, vi i1, vi i3, vr 0, vr 0, vr 0] [] V D (yback d 139 16 [vr 405, vi i1, vi i2, vi i3] [] Q))) :
    RY d 139 4 [vr 405, vi i1, vi i2, vi i3] [] V D Q := yat (c := xk_139) (hd := [1390004]) (dk := []) (dv := []) (nb := [1390007]) rfl h
set_option maxRecDepth 20000 in
theorem u_139_16 {d : Nat} {i1 i2 i3 i_0 : Int} {V : xF} {D : yD} {Q : xRes → xF → yD → Prop}
    (h : RY d 207 0 [vr 405, vi i1, vi i2, vr 0, vr 0, vr 0] [] V D (yback d 139 22 [vr 405, vi i1, vi i2, vi i3] [vi i_0] Q)) :
    RY d 139 16 [vr 405, vi i1, vi i2, vi i3] [vi i_0] V D Q := yat (c := xk_139) (hd := [1390004]) (dk := []) (dv := []) (nb := []) rfl h
set_option maxRecDepth 20000 in
theorem u_139_22 {d : Nat} {i1 i2 i3 i_0 i_1 : Int} {V : xF} {D : yD} {Q : xRes → xF → yD → Prop}
    (h : (i_0 ≤ i_1 → RY d 139 4 [vr 405, vi i1, vi i2, vi (wr (i3 + 1))] [] V D Q) ∧ (i_1 < i_0 → RY d 139 4 [vr 405, vi i1, vi i3, vi (wr (i3 + 1))] [] V D Q)) :
    RY d 139 22 [vr 405, vi i1, vi i2, vi i3] [vi i_1, vi i_0] V D Q := yat (c := xk_139) (hd := [1390004]) (dk := []) (dv := []) (nb := [1390022]) rfl h
set_option maxRecDepth 20000 in
theorem u_140_0 {d : Nat} {i1 : Int} {V : xF} {D : yD} {Q : xRes → xF → yD → Prop}
    (h : RY d 159 0 [vr 405, vr 0, vr 0] [] V D (yback d 140 5 [vr 405, vi i1, vr 0] [vr 405] Q)) :
    RY d 140 0 [vr 405, vi i1, vr 0] [] V D Q := yat (c := xk_140) (hd := []) (dk := []) (dv := []) (nb := []) rfl h
set_option maxRecDepth 20000 in
theorem u_140_5 {d : Nat} {i1 i_1 : Int} {V : xF} {D : yD} {Q : xRes → xF → yD → Prop}
    (h : RY d 219 0 [vr 405, vi i_1, vr 0, vr 0] [] V D (yback d 140 8 [vr 405, vi i1, vr 0] [] Q)) :
    RY d 140 5 [vr 405, vi i1, vr 0] [vi i_1, vr 405] V D Q := yat (c := xk_140) (hd := []) (dk := []) (dv := []) (nb := []) rfl h
set_option maxRecDepth 20000 in
theorem u_140_8 {d : Nat} {i1 i_0 : Int} {V : xF} {D : yD} {Q : xRes → xF → yD → Prop}
    (h : (i_0 = 0 → Q (.inl (some (vi 0))) V D) ∧ (i_0 ≠ 0 → RY d 134 0 [vr 405, vi i1, vr 0, vr 0] [] V D (yback d 140 18 [vr 405, vi i1, vi i_0] [] Q))) :
    RY d 140 8 [vr 405, vi i1, vr 0] [vi i_0] V D Q := yat (c := xk_140) (hd := []) (dk := []) (dv := []) (nb := [1400010]) rfl h
set_option maxRecDepth 20000 in
theorem u_140_18 {d : Nat} {i1 i2 i_0 : Int} {V : xF} {D : yD} {Q : xRes → xF → yD → Prop}
    (h : (i_0 ≠ ((-1)) → (yg_133 i1 6 V D ∧ i2 ≠ 0 ∧ Q (.inl (some (vi (wr ((wr ((100 : Int) * (yr_133 i1 6 V D))).tdiv i2))))) V D)) ∧ (i_0 = ((-1)) → Q (.inl (some (vi 0))) V D)) :
    RY d 140 18 [vr 405, vi i1, vi i2] [vi i_0] V D Q := yat (c := xk_140) (hd := []) (dk := []) (dv := [1400037]) (nb := [1400019]) rfl h
set_option maxRecDepth 20000 in
theorem u_141_0 {d : Nat} {i1 i2 : Int} {V : xF} {D : yD} {Q : xRes → xF → yD → Prop}
    (h : RY d 242 0 [vr 70, vi i1] [] V D (yback d 141 5 [vr 70, vi i1, vi i2] [] Q)) :
    RY d 141 0 [vr 70, vi i1, vi i2] [] V D Q := yat (c := xk_141) (hd := []) (dk := []) (dv := []) (nb := []) rfl h
set_option maxRecDepth 20000 in
theorem u_141_5 {d : Nat} {i1 i2 : Int} {V : xF} {D : yD} {Q : xRes → xF → yD → Prop}
    (h : ((i2 = 0 → (((0 : Int) ≤ i1 ∧ i1 < (5 : Int)) ∧ Q (.inl (some (vi (V 87 i1.toNat)))) V D)) ∧ (i2 = 1 → (((0 : Int) ≤ i1 ∧ i1 < (5 : Int)) ∧ Q (.inl (some (vi (V 88 i1.toNat)))) V D)) ∧ (i2 = 2 → (((0 : Int) ≤ i1 ∧ i1 < (5 : Int)) ∧ Q (.inl (some (vi (V 89 i1.toNat)))) V D)) ∧ (i2 = 3 → RY d 204 0 [vr 390, vr 81, vr 0, vr 0] [] V D (yback d 141 81 [vr 70, vi i1, vi i2] [] Q)) ∧ (i2 = 4 → RY d 204 0 [vr 390, vr 81, vr 0, vr 0] [] V D (yback d 141 105 [vr 70, vi i1, vi i2] [] Q)) ∧ True) ∧ ((i2 < 0 ∨ (0 : Int) + 5 ≤ i2) → Q (.inr 4) V (D.1, D.2.1, D.2.2.1, D.2.2.2.1, D.2.2.2.2.1 + 1, D.2.2.2.2.2 + 6))) :
    RY d 141 5 [vr 70, vi i1, vi i2] [] V D Q := yat (c := xk_141) (hd := []) (dk := []) (dv := [1410048, 1410058, 1410068]) (nb := []) rfl h
set_option maxRecDepth 20000 in
theorem u_141_81 {d : Nat} {i1 i2 : Int} {V : xF} {D : yD} {Q : xRes → xF → yD → Prop}
    (h : RY d 243 0 [vr 390, vr 81, vi i1] [] V D (yback d 141 93 [vr 70, vi i1, vi i2] [] Q)) :
    RY d 141 81 [vr 70, vi i1, vi i2] [] V D Q := yat (c := xk_141) (hd := []) (dk := []) (dv := []) (nb := []) rfl h
set_option maxRecDepth 20000 in
theorem u_141_93 {d : Nat} {i1 i2 i_0 : Int} {V : xF} {D : yD} {Q : xRes → xF → yD → Prop}
    (h : Q (.inl (some (vi i_0))) V D) :
    RY d 141 93 [vr 70, vi i1, vi i2] [vi i_0] V D Q := yat (c := xk_141) (hd := []) (dk := []) (dv := []) (nb := []) rfl h
set_option maxRecDepth 20000 in
theorem u_141_105 {d : Nat} {i1 i2 : Int} {V : xF} {D : yD} {Q : xRes → xF → yD → Prop}
    (h : RY d 244 0 [vr 390, vr 81, vi i1, vr 0, vr 0, vr 0] [] V D (yback d 141 117 [vr 70, vi i1, vi i2] [] Q)) :
    RY d 141 105 [vr 70, vi i1, vi i2] [] V D Q := yat (c := xk_141) (hd := []) (dk := []) (dv := []) (nb := []) rfl h
set_option maxRecDepth 20000 in
theorem u_141_117 {d : Nat} {i1 i2 i_0 : Int} {V : xF} {D : yD} {Q : xRes → xF → yD → Prop}
    (h : Q (.inl (some (vi i_0))) V D) :
    RY d 141 117 [vr 70, vi i1, vi i2] [vi i_0] V D Q := yat (c := xk_141) (hd := []) (dk := []) (dv := []) (nb := []) rfl h
set_option maxRecDepth 20000 in
theorem u_144_0 {d : Nat} {i1 i2 : Int} {V : xF} {D : yD} {Q : xRes → xF → yD → Prop}
    (h : RY d 144 8 [vr 405, vi i1, vi i2, vi ((-1)), vi 0, vi 0] [] V D Q) :
    RY d 144 0 [vr 405, vi i1, vi i2, vr 0, vr 0, vr 0] [] V D Q := yat (c := xk_144) (hd := [1440008]) (dk := []) (dv := []) (nb := []) rfl h
set_option maxRecDepth 20000 in
theorem u_144_8 {d : Nat} {i1 i2 i3 i4 i5 : Int} {V : xF} {D : yD} {Q : xRes → xF → yD → Prop}
    (h : ((V 406 3) ≤ i5 → Q (.inl (some (vi i3))) V D) ∧ (i5 < (V 406 3) → ((i2 = 0 → RY d 245 0 [vr 405, vi i1, vi i5, vr 0, vr 0, vr 0, vr 0] [] V D (yback d 144 43 [vr 405, vi i1, vi i2, vi i3, vi i4, vi i5] [] Q)) ∧ (i2 ≠ 0 → RY d 134 0 [vr 405, vi i5, vr 0, vr 0] [] V D (yback d 144 29 [vr 405, vi i1, vi i2, vi i3, vi i4, vi i5] [] Q))))) :
    RY d 144 8 [vr 405, vi i1, vi i2, vi i3, vi i4, vi i5] [] V D Q := yat (c := xk_144) (hd := [1440008]) (dk := []) (dv := []) (nb := [1440016, 1440020]) rfl h
set_option maxRecDepth 20000 in
theorem u_144_29 {d : Nat} {i1 i2 i3 i4 i5 i_0 : Int} {V : xF} {D : yD} {Q : xRes → xF → yD → Prop}
    (h : (i_0 = ((-1)) → RY d 245 0 [vr 405, vi i1, vi i5, vr 0, vr 0, vr 0, vr 0] [] V D (yback d 144 43 [vr 405, vi i1, vi i2, vi i3, vi i4, vi i5] [] Q)) ∧ (i_0 ≠ ((-1)) → RY d 144 8 [vr 405, vi i1, vi i2, vi i3, vi i4, vi (wr (i5 + 1))] [] V D Q)) :
    RY d 144 29 [vr 405, vi i1, vi i2, vi i3, vi i4, vi i5] [vi i_0] V D Q := yat (c := xk_144) (hd := [1440008]) (dk := []) (dv := []) (nb := [1440030]) rfl h
set_option maxRecDepth 20000 in
theorem u_144_43 {d : Nat} {i1 i2 i3 i4 i5 : Int} {V : xF} {D : yD} {Q : xRes → xF → yD → Prop}
    (h : ((V 405 18) ≠ 0 → RY d 144 8 [vr 405, vi i1, vi i2, vi i3, vi i4, vi (wr (i5 + 1))] [] V D Q) ∧ ((V 405 18) = 0 → ((i3 = ((-1)) → RY d 144 8 [vr 405, vi i1, vi i2, vi i5, vi (V 405 17), vi (wr (i5 + 1))] [] V D Q) ∧ (i3 ≠ ((-1)) → ((i4 < (V 405 17) → RY d 144 8 [vr 405, vi i1, vi i2, vi i5, vi (V 405 17), vi (wr (i5 + 1))] [] V D Q) ∧ ((V 405 17) ≤ i4 → RY d 144 8 [vr 405, vi i1, vi i2, vi i3, vi i4, vi (wr (i5 + 1))] [] V D Q)))))) :
    RY d 144 43 [vr 405, vi i1, vi i2, vi i3, vi i4, vi i5] [] V D Q := yat (c := xk_144) (hd := [1440008]) (dk := []) (dv := []) (nb := [1440047, 1440052, 1440061]) rfl h
set_option maxRecDepth 20000 in
theorem u_145_0 {d : Nat} {i1 : Int} {V : xF} {D : yD} {Q : xRes → xF → yD → Prop}
    (h : yg_143 i1 2 V D ∧ (((yr_143 i1 2 V D) ≠ ((-1)) → RY d 145 16 [vr 405, vi i1, vi 0, vi 0, vr 0] [] V D Q) ∧ ((yr_143 i1 2 V D) = ((-1)) → Q (.inl (some (vi ((-1))))) V D))) :
    RY d 145 0 [vr 405, vi i1, vr 0, vr 0, vr 0] [] V D Q := yat (c := xk_145) (hd := [1450016, 1450052, 1450066]) (dk := []) (dv := []) (nb := [1450007]) rfl h
set_option maxRecDepth 20000 in
theorem u_145_16 {d : Nat} {i1 i2 i3 : Int} {V : xF} {D : yD} {Q : xRes → xF → yD → Prop}
    (h : ((V 406 4) ≤ i3 → RY d 145 52 [vr 405, vi i1, vi i2, vi i3, vr 0] [] V D Q) ∧ (i3 < (V 406 4) → (yg_143 i3 2 V D ∧ (((yr_143 i3 2 V D) ≠ ((-1)) → RY d 145 16 [vr 405, vi i1, vi (xor_ i2 (xshl 1 i3)), vi (wr (i3 + 1)), vr 0] [] V D Q) ∧ ((yr_143 i3 2 V D) = ((-1)) → RY d 145 16 [vr 405, vi i1, vi (xor_ i2 0), vi (wr (i3 + 1)), vr 0] [] V D Q))))) :
    RY d 145 16 [vr 405, vi i1, vi i2, vi i3, vr 0] [] V D Q := yat (c := xk_145) (hd := [1450016, 1450052, 1450066]) (dk := []) (dv := []) (nb := [1450023, 1450034]) rfl h
set_option maxRecDepth 20000 in
theorem u_145_52 {d : Nat} {i1 i2 i3 : Int} {v4 : xV} {V : xF} {D : yD} {Q : xRes → xF → yD → Prop}
    (h : RY d 246 0 [vr 405, vi i1, vi i2, vr 0, vr 0] [] V D (yback d 145 58 [vr 405, vi i1, vi i2, vi i3, v4] [] Q)) :
    RY d 145 52 [vr 405, vi i1, vi i2, vi i3, v4] [] V D Q := yat (c := xk_145) (hd := [1450016, 1450052, 1450066]) (dk := []) (dv := []) (nb := []) rfl h
set_option maxRecDepth 20000 in
theorem u_145_58 {d : Nat} {i1 i2 i3 i_0 : Int} {v4 : xV} {V : xF} {D : yD} {Q : xRes → xF → yD → Prop}
    (h : (i_0 ≠ 0 → RY d 247 0 [vr 405, vi i1, vi i2, vr 0, vr 0, vr 0, vr 0] [] V D (yback d 145 128 [vr 405, vi i1, vi i2, vi i3, v4] [] Q)) ∧ (i_0 = 0 → RY d 145 66 [vr 405, vi i1, vi i2, vi 0, vi 0] [] V D Q)) :
    RY d 145 58 [vr 405, vi i1, vi i2, vi i3, v4] [vi i_0] V D Q := yat (c := xk_145) (hd := [1450016, 1450052, 1450066]) (dk := []) (dv := []) (nb := [1450058]) rfl h
set_option maxRecDepth 20000 in
theorem u_145_66 {d : Nat} {i1 i2 i3 i4 : Int} {V : xF} {D : yD} {Q : xRes → xF → yD → Prop}
    (h : ((V 406 4) ≤ i4 → RY d 145 52 [vr 405, vi i1, vi (xand i2 (xxor i3 ((-1)))), vi i3, vi i4] [] V D Q) ∧ (i4 < (V 406 4) → (((yr_198 i2 i4 V D) = 0 → RY d 145 66 [vr 405, vi i1, vi i2, vi (xor_ i3 0), vi (wr (i4 + 1))] [] V D Q) ∧ ((yr_198 i2 i4 V D) ≠ 0 → RY d 246 0 [vr 405, vi i4, vi i2, vr 0, vr 0] [] V D (yback d 145 94 [vr 405, vi i1, vi i2, vi i3, vi i4] [vi i3] Q))))) :
    RY d 145 66 [vr 405, vi i1, vi i2, vi i3, vi i4] [] V D Q := yat (c := xk_145) (hd := [1450016, 1450052, 1450066]) (dk := []) (dv := []) (nb := [1450074, 1450084]) rfl h
set_option maxRecDepth 20000 in
theorem u_145_94 {d : Nat} {i1 i2 i3 i4 i_0 i_1 : Int} {V : xF} {D : yD} {Q : xRes → xF → yD → Prop}
    (h : (i_1 = 0 → RY d 145 66 [vr 405, vi i1, vi i2, vi (xor_ i_0 0), vi (wr (i4 + 1))] [] V D Q) ∧ (i_1 ≠ 0 → RY d 145 66 [vr 405, vi i1, vi i2, vi (xor_ i_0 (xshl 1 i4)), vi (wr (i4 + 1))] [] V D Q)) :
    RY d 145 94 [vr 405, vi i1, vi i2, vi i3, vi i4] [vi i_1, vi i_0] V D Q := yat (c := xk_145) (hd := [1450016, 1450052, 1450066]) (dk := []) (dv := []) (nb := [1450094]) rfl h
set_option maxRecDepth 20000 in
theorem u_145_128 {d : Nat} {i1 i2 i3 i_0 : Int} {v4 : xV} {V : xF} {D : yD} {Q : xRes → xF → yD → Prop}
    (h : Q (.inl (some (vi i_0))) V D) :
    RY d 145 128 [vr 405, vi i1, vi i2, vi i3, v4] [vi i_0] V D Q := yat (c := xk_145) (hd := [1450016, 1450052, 1450066]) (dk := []) (dv := []) (nb := []) rfl h
set_option maxRecDepth 20000 in
theorem u_146_0 {d : Nat} {i1 i2 : Int} {V : xF} {D : yD} {Q : xRes → xF → yD → Prop}
    (h : RY d 242 0 [vr 70, vi i1] [] V D (yback d 146 5 [vr 70, vi i1, vi i2] [] Q)) :
    RY d 146 0 [vr 70, vi i1, vi i2] [] V D Q := yat (c := xk_146) (hd := []) (dk := []) (dv := []) (nb := []) rfl h
set_option maxRecDepth 20000 in
theorem u_146_5 {d : Nat} {i1 i2 : Int} {V : xF} {D : yD} {Q : xRes → xF → yD → Prop}
    (h : RY d 235 0 [vr 70, vi i2] [] V D (yback d 146 10 [vr 70, vi i1, vi i2] [] Q)) :
    RY d 146 5 [vr 70, vi i1, vi i2] [] V D Q := yat (c := xk_146) (hd := []) (dk := []) (dv := []) (nb := []) rfl h
set_option maxRecDepth 20000 in
theorem u_146_10 {d : Nat} {i1 i2 : Int} {V : xF} {D : yD} {Q : xRes → xF → yD → Prop}
    (h : RY d 204 0 [vr 390, vr 81, vr 0, vr 0] [] V D (yback d 146 21 [vr 70, vi i1, vi i2] [] Q)) :
    RY d 146 10 [vr 70, vi i1, vi i2] [] V D Q := yat (c := xk_146) (hd := []) (dk := []) (dv := []) (nb := []) rfl h
set_option maxRecDepth 20000 in
theorem u_146_21 {d : Nat} {i1 i2 : Int} {V : xF} {D : yD} {Q : xRes → xF → yD → Prop}
    (h : ((0 : Int) ≤ i2 ∧ i2 < (5 : Int)) ∧ RY d 248 0 [vr 390, vr 81, vi i1, vi i2, vi (V 85 i2.toNat), vr 0] [] V D (yback d 146 43 [vr 70, vi i1, vi i2] [] Q)) :
    RY d 146 21 [vr 70, vi i1, vi i2] [] V D Q := yat (c := xk_146) (hd := []) (dk := []) (dv := [1460039]) (nb := []) rfl h
set_option maxRecDepth 20000 in
theorem u_146_43 {d : Nat} {i1 i2 i_0 : Int} {V : xF} {D : yD} {Q : xRes → xF → yD → Prop}
    (h : Q (.inl (some (vi i_0))) V D) :
    RY d 146 43 [vr 70, vi i1, vi i2] [vi i_0] V D Q := yat (c := xk_146) (hd := []) (dk := []) (dv := []) (nb := []) rfl h
set_option maxRecDepth 20000 in
theorem u_147_0 {d : Nat} {i1 i2 : Int} {V : xF} {D : yD} {Q : xRes → xF → yD → Prop}
    (h : RY d 245 0 [vr 405, vi i1, vi i2, vr 0, vr 0, vr 0, vr 0] [] V D (yback d 147 6 [vr 405, vi i1, vi i2] [] Q)) :
    RY d 147 0 [vr 405, vi i1, vi i2] [] V D Q := yat (c := xk_147) (hd := []) (dk := []) (dv := []) (nb := []) rfl h
set_option maxRecDepth 20000 in
theorem u_147_6 {d : Nat} {i1 i2 : Int} {V : xF} {D : yD} {Q : xRes → xF → yD → Prop}
    (h : Q (.inl (some (vi (V 405 17)))) V D) :
    RY d 147 6 [vr 405, vi i1, vi i2] [] V D Q := yat (c := xk_147) (hd := []) (dk := []) (dv := []) (nb := []) rfl h
set_option maxRecDepth 20000 in
theorem u_148_0 {d : Nat} {i1 i2 : Int} {V : xF} {D : yD} {Q : xRes → xF → yD → Prop}
    (h : RY d 242 0 [vr 70, vi i1] [] V D (yback d 148 5 [vr 70, vi i1, vi i2] [] Q)) :
    RY d 148 0 [vr 70, vi i1, vi i2] [] V D Q := yat (c := xk_148) (hd := []) (dk := []) (dv := []) (nb := []) rfl h
set_option maxRecDepth 20000 in
theorem u_148_5 {d : Nat} {i1 i2 : Int} {V : xF} {D : yD} {Q : xRes → xF → yD → Prop}
    (h : RY d 235 0 [vr 70, vi i2] [] V D (yback d 148 10 [vr 70, vi i1, vi i2] [] Q)) :
    RY d 148 5 [vr 70, vi i1, vi i2] [] V D Q := yat (c := xk_148) (hd := []) (dk := []) (dv := []) (nb := []) rfl h
set_option maxRecDepth 20000 in
theorem u_148_10 {d : Nat} {i1 i2 : Int} {V : xF} {D : yD} {Q : xRes → xF → yD → Prop}
    (h : RY d 204 0 [vr 390, vr 81, vr 0, vr 0] [] V D (yback d 148 21 [vr 70, vi i1, vi i2] [] Q)) :
    RY d 148 10 [vr 70, vi i1, vi i2] [] V D Q := yat (c := xk_148) (hd := []) (dk := []) (dv := []) (nb := []) rfl h
set_option maxRecDepth 20000 in
theorem u_148_21 {d : Nat} {i1 i2 : Int} {V : xF} {D : yD} {Q : xRes → xF → yD → Prop}
    (h : ((0 : Int) ≤ i2 ∧ i2 < (5 : Int)) ∧ RY d 249 0 [vr 390, vr 81, vi i1, vi i2, vi (V 85 i2.toNat)] [] V D (yback d 148 43 [vr 70, vi i1, vi i2] [] Q)) :
    RY d 148 21 [vr 70, vi i1, vi i2] [] V D Q := yat (c := xk_148) (hd := []) (dk := []) (dv := [1480039]) (nb := []) rfl h
set_option maxRecDepth 20000 in
theorem u_148_43 {d : Nat} {i1 i2 i_0 : Int} {V : xF} {D : yD} {Q : xRes → xF → yD → Prop}
    (h : (i_0 = 0 ∨ i_0 = 1) ∧ Q (.inl (some (vi i_0))) V D) :
    RY d 148 43 [vr 70, vi i1, vi i2] [vi i_0] V D Q := yat (c := xk_148) (hd := []) (dk := []) (dv := [1480043]) (nb := []) rfl h
set_option maxRecDepth 20000 in
theorem u_149_0 {d : Nat} {i1 i2 : Int} {V : xF} {D : yD} {Q : xRes → xF → yD → Prop}
    (h : RY d 245 0 [vr 405, vi i1, vi i2, vr 0, vr 0, vr 0, vr 0] [] V D (yback d 149 6 [vr 405, vi i1, vi i2] [] Q)) :
    RY d 149 0 [vr 405, vi i1, vi i2] [] V D Q := yat (c := xk_149) (hd := []) (dk := []) (dv := []) (nb := []) rfl h
set_option maxRecDepth 20000 in
theorem u_149_6 {d : Nat} {i1 i2 : Int} {V : xF} {D : yD} {Q : xRes → xF → yD → Prop}
    (h : ((V 405 18) = 0 ∨ (V 405 18) = 1) ∧ Q (.inl (some (vi (V 405 18)))) V D) :
    RY d 149 6 [vr 405, vi i1, vi i2] [] V D Q := yat (c := xk_149) (hd := []) (dk := []) (dv := [1490010]) (nb := []) rfl h
set_option maxRecDepth 20000 in
theorem u_150_0 {d : Nat} {i1 i2 : Int} {V : xF} {D : yD} {Q : xRes → xF → yD → Prop}
    (h : RY d 250 0 [vr 70, vi i1, vi i2] [] V D (yback d 150 6 [vr 70, vi i1, vi i2] [] Q)) :
    RY d 150 0 [vr 70, vi i1, vi i2] [] V D Q := yat (c := xk_150) (hd := []) (dk := []) (dv := []) (nb := []) rfl h
set_option maxRecDepth 20000 in
theorem u_150_6 {d : Nat} {i1 i2 : Int} {V : xF} {D : yD} {Q : xRes → xF → yD → Prop}
    (h : yg_251_81 i1 i2 V D ∧ ((yr_251_81 i1 i2 V D) = 0 ∨ (yr_251_81 i1 i2 V D) = 1) ∧ Q (.inl (some (vi (yr_251_81 i1 i2 V D)))) V D) :
    RY d 150 6 [vr 70, vi i1, vi i2] [] V D Q := yat (c := xk_150) (hd := []) (dk := []) (dv := [1500015]) (nb := []) rfl h
set_option maxRecDepth 20000 in
theorem u_151_0 {d : Nat} {i1 i2 : Int} {V : xF} {D : yD} {Q : xRes → xF → yD → Prop}
    (h : yg_132 i1 V D ∧ (((yr_132 i1 V D) = 0 → ∀ V1 : xF, V1 = up2 V 405 0 1 → Q (.inl none) V1 D) ∧ ((yr_132 i1 V D) ≠ 0 → (yg_132 i2 V D ∧ (((yr_132 i2 V D) ≠ 0 → ((i1 ≠ i2 → ∀ V2 : xF, V2 = up2 V 405 0 0 → Q (.inl none) V2 D) ∧ (i1 = i2 → ∀ V3 : xF, V3 = up2 V 405 0 2 → Q (.inl none) V3 D))) ∧ ((yr_132 i2 V D) = 0 → ∀ V4 : xF, V4 = up2 V 405 0 1 → Q (.inl none) V4 D)))))) :
    RY d 151 0 [vr 405, vi i1, vi i2] [] V D Q := yat (c := xk_151) (hd := []) (dk := []) (dv := []) (nb := [1510006, 1510014, 1510023]) rfl h
set_option maxRecDepth 20000 in
theorem u_153_0 {d : Nat} {i1 i2 i3 i4 i5 : Int} {V : xF} {D : yD} {Q : xRes → xF → yD → Prop}
    (h : RY d 252 0 [vr 70, vi i1, vi i2, vi i3] [] V D (yback d 153 7 [vr 70, vi i1, vi i2, vi i3, vi i4, vi i5, vr 0] [] Q)) :
    RY d 153 0 [vr 70, vi i1, vi i2, vi i3, vi i4, vi i5, vr 0] [] V D Q := yat (c := xk_153) (hd := []) (dk := []) (dv := []) (nb := []) rfl h
set_option maxRecDepth 20000 in
theorem u_153_7 {d : Nat} {i1 i2 i3 i4 i5 : Int} {V : xF} {D : yD} {Q : xRes → xF → yD → Prop}
    (h : (i4 ≠ ((-1)) → RY d 253 0 [vr 253, vi i4, vr 0, vr 0] [] V D (yback d 153 30 [vr 70, vi i1, vi i2, vi i3, vi i4, vi i5, vr 0] [] Q)) ∧ (i4 = ((-1)) → RY d 213 0 [vr 253, vr 0, vr 0] [] V D (yback d 153 20 [vr 70, vi i1, vi i2, vi i3, vi i4, vi i5, vr 0] [] Q))) :
    RY d 153 7 [vr 70, vi i1, vi i2, vi i3, vi i4, vi i5, vr 0] [] V D Q := yat (c := xk_153) (hd := []) (dk := []) (dv := []) (nb := [1530010]) rfl h
set_option maxRecDepth 20000 in
theorem u_153_20 {d : Nat} {i1 i2 i3 i4 i5 i_0 : Int} {V : xF} {D : yD} {Q : xRes → xF → yD → Prop}
    (h : Q (.inl (some (vi i_0))) V D) :
    RY d 153 20 [vr 70, vi i1, vi i2, vi i3, vi i4, vi i5, vr 0] [vi i_0] V D Q := yat (c := xk_153) (hd := []) (dk := []) (dv := []) (nb := []) rfl h
set_option maxRecDepth 20000 in
theorem u_153_30 {d : Nat} {i1 i2 i3 i4 i5 i_0 : Int} {V : xF} {D : yD} {Q : xRes → xF → yD → Prop}
    (h : (i_0 = ((-1)) → Q (.inl (some (vi i_0))) V D) ∧ (i_0 ≠ ((-1)) → ((i5 ≠ 0 → (((0 : Int) ≤ i_0 ∧ i_0 < (48 : Int)) ∧ Q (.inl (some (vi (V 253 i_0.toNat)))) V D)) ∧ (i5 = 0 → Q (.inl (some (vi i_0))) V D)))) :
    RY d 153 30 [vr 70, vi i1, vi i2, vi i3, vi i4, vi i5, vr 0] [vi i_0] V D Q := yat (c := xk_153) (hd := []) (dk := []) (dv := [1530054]) (nb := [1530035, 1530040]) rfl h
set_option maxRecDepth 20000 in
theorem u_154_0 {d : Nat} {i1 i2 i3 : Int} {V : xF} {D : yD} {Q : xRes → xF → yD → Prop}
    (h : yg_132 i1 V D ∧ (((yr_132 i1 V D) = 0 → ∀ V1 : xF, V1 = up2 V 405 0 1 → Q (.inl none) V1 D) ∧ ((yr_132 i1 V D) ≠ 0 → (yg_164 i1 i2 i3 V D ∧ (((yr_164 i1 i2 i3 V D) ≠ 0 → ∀ V2 : xF, V2 = up2 V 405 0 0 → Q (.inl none) V2 D) ∧ ((yr_164 i1 i2 i3 V D) = 0 → ∀ V3 : xF, V3 = up2 V 405 0 1 → Q (.inl none) V3 D)))))) :
    RY d 154 0 [vr 405, vi i1, vi i2, vi i3] [] V D Q := yat (c := xk_154) (hd := []) (dk := []) (dv := []) (nb := [1540006, 1540016]) rfl h
set_option maxRecDepth 20000 in
theorem u_155_0 {d : Nat} {i1 i2 i3 : Int} {V : xF} {D : yD} {Q : xRes → xF → yD → Prop}
    (h : RY d 155 3 [vr 405, vi i1, vi i2, vi i3, vi 0, vr 0, vr 0, vr 0] [] V D Q) :
    RY d 155 0 [vr 405, vi i1, vi i2, vi i3, vr 0, vr 0, vr 0, vr 0] [] V D Q := yat (c := xk_155) (hd := [1550003, 1550046, 1550076, 1550122]) (dk := []) (dv := []) (nb := []) rfl h
set_option maxRecDepth 20000 in
theorem u_155_3 {d : Nat} {i1 i2 i3 i4 : Int} {V : xF} {D : yD} {Q : xRes → xF → yD → Prop}
    (h : ((64 : Int) ≤ i4 → RY d 155 46 [vr 405, vi i1, vi i2, vi i3, vi (V 406 10), vi (wr (-(V 406 10))), vr 0, vr 0] [] V D Q) ∧ (i4 < 64 → (((0 : Int) ≤ i4 ∧ i4 < (64 : Int)) ∧ (∀ V1 : xF, V1 = up2 V 412 i4.toNat 0 → (((0 : Int) ≤ i4 ∧ i4 < (64 : Int)) ∧ (∀ V2 : xF, V2 = up2 V1 413 i4.toNat 0 → RY d 155 3 [vr 405, vi i1, vi i2, vi i3, vi (wr (i4 + 1)), vr 0, vr 0, vr 0] [] V2 D Q)))))) :
    RY d 155 3 [vr 405, vi i1, vi i2, vi i3, vi i4, vr 0, vr 0, vr 0] [] V D Q := yat (c := xk_155) (hd := [1550003, 1550046, 1550076, 1550122]) (dk := []) (dv := [1550017, 1550025]) (nb := [1550007]) rfl h
set_option maxRecDepth 20000 in
theorem u_155_46 {d : Nat} {i1 i2 i3 i4 i5 : Int} {v6 v7 : xV} {V : xF} {D : yD} {Q : xRes → xF → yD → Prop}
    (h : (i4 < i5 → RY d 155 122 [vr 405, vi i1, vi i2, vi i3, vi i4, vi 0, vi 0, v7] [] V D Q) ∧ (i5 ≤ i4 → (((0 : Int) ≤ i5 → RY d 155 76 [vr 405, vi i1, vi i2, vi i3, vi i4, vi i5, vi (wr (i4 - i5)), vi (wr (-(wr (i4 - i5))))] [] V D Q) ∧ (i5 < 0 → RY d 155 76 [vr 405, vi i1, vi i2, vi i3, vi i4, vi i5, vi (wr (i4 - (wr (-i5)))), vi (wr (-(wr (i4 - (wr (-i5))))))] [] V D Q)))) :
    RY d 155 46 [vr 405, vi i1, vi i2, vi i3, vi i4, vi i5, v6, v7] [] V D Q := yat (c := xk_155) (hd := [1550003, 1550046, 1550076, 1550122]) (dk := []) (dv := []) (nb := [1550050, 1550057]) rfl h
set_option maxRecDepth 20000 in
theorem u_155_76 {d : Nat} {i1 i2 i3 i4 i5 i6 i7 : Int} {V : xF} {D : yD} {Q : xRes → xF → yD → Prop}
    (h : (i6 < i7 → RY d 155 46 [vr 405, vi i1, vi i2, vi i3, vi i4, vi (wr (i5 + 1)), vi i6, vi i7] [] V D Q) ∧ (i7 ≤ i6 → ((i5 ≠ 0 → RY d 254 0 [vr 405, vi i1, vi i2, vi i3, vi i5, vi i7, vr 0, vr 0, vr 0, vr 0, vr 0, vr 0, vr 0, vr 0] [] V D (yback d 155 104 [vr 405, vi i1, vi i2, vi i3, vi i4, vi i5, vi i6, vi i7] [] Q)) ∧ (i5 = 0 → ((i7 = 0 → RY d 155 76 [vr 405, vi i1, vi i2, vi i3, vi i4, vi i5, vi i6, vi (wr (i7 + 1))] [] V D Q) ∧ (i7 ≠ 0 → RY d 254 0 [vr 405, vi i1, vi i2, vi i3, vi i5, vi i7, vr 0, vr 0, vr 0, vr 0, vr 0, vr 0, vr 0, vr 0] [] V D (yback d 155 104 [vr 405, vi i1, vi i2, vi i3, vi i4, vi i5, vi i6, vi i7] [] Q))))))) :
    RY d 155 76 [vr 405, vi i1, vi i2, vi i3, vi i4, vi i5, vi i6, vi i7] [] V D Q := yat (c := xk_155) (hd := [1550003, 1550046, 1550076, 1550122]) (dk := []) (dv := []) (nb := [1550080, 1550085, 1550090]) rfl h
set_option maxRecDepth 20000 in
theorem u_155_104 {d : Nat} {i1 i2 i3 i4 i5 i6 i7 : Int} {V : xF} {D : yD} {Q : xRes → xF → yD → Prop}
    (h : RY d 155 76 [vr 405, vi i1, vi i2, vi i3, vi i4, vi i5, vi i6, vi (wr (i7 + 1))] [] V D Q) :
    RY d 155 104 [vr 405, vi i1, vi i2, vi i3, vi i4, vi i5, vi i6, vi i7] [] V D Q := yat (c := xk_155) (hd := [1550003, 1550046, 1550076, 1550122]) (dk := []) (dv := []) (nb := []) rfl h
set_option maxRecDepth 20000 in
theorem u_155_122 {d : Nat} {i1 i2 i3 i4 i5 i6 : Int} {v7 : xV} {V : xF} {D : yD} {Q : xRes → xF → yD → Prop}
    (h : ((64 : Int) ≤ i6 → Q (.inl (some (vi i5))) V D) ∧ (i6 < 64 → (((0 : Int) ≤ i6 ∧ i6 < (64 : Int)) ∧ (((V 406 8) ≤ (V 412 i6.toNat) → (((0 : Int) ≤ i6 ∧ i6 < (64 : Int)) ∧ (((V 412 i6.toNat) ≤ 0 → RY d 155 122 [vr 405, vi i1, vi i2, vi i3, vi i4, vi (wr (i5 + 0)), vi (wr (i6 + 1)), v7] [] V D Q) ∧ ((0 : Int) < (V 412 i6.toNat) → RY d 155 122 [vr 405, vi i1, vi i2, vi i3, vi i4, vi (wr (i5 + 1)), vi (wr (i6 + 1)), v7] [] V D Q)))) ∧ ((V 412 i6.toNat) < (V 406 8) → (((0 : Int) ≤ i6 ∧ i6 < (64 : Int)) ∧ (∀ V1 : xF, V1 = up2 V 412 i6.toNat 0 → (((0 : Int) ≤ i6 ∧ i6 < (64 : Int)) ∧ (((V1 412 i6.toNat) ≤ 0 → RY d 155 122 [vr 405, vi i1, vi i2, vi i3, vi i4, vi (wr (i5 + 0)), vi (wr (i6 + 1)), v7] [] V1 D Q) ∧ ((0 : Int) < (V1 412 i6.toNat) → RY d 155 122 [vr 405, vi i1, vi i2, vi i3, vi i4, vi (wr (i5 + 1)), vi (wr (i6 + 1)), v7] [] V1 D Q)))))))))) :
    RY d 155 122 [vr 405, vi i1, vi i2, vi i3, vi i4, vi i5, vi i6, v7] [] V D Q := yat (c := xk_155) (hd := [1550003, 1550046, 1550076, 1550122]) (dk := []) (dv := [1550135, 1550153, 1550162]) (nb := [1550126, 1550143, 1550163]) rfl h
set_option maxRecDepth 20000 in
theorem u_156_0 {d : Nat} {i1 : Int} {V : xF} {D : yD} {Q : xRes → xF → yD → Prop}
    (h : RY d 255 0 [vr 70, vi i1, vi 1, vi 60] [] V D (yback d 156 8 [vr 70, vi i1] [] Q)) :
    RY d 156 0 [vr 70, vi i1] [] V D Q := yat (c := xk_156) (hd := []) (dk := []) (dv := []) (nb := []) rfl h
set_option maxRecDepth 20000 in
theorem u_156_8 {d : Nat} {i1 : Int} {V : xF} {D : yD} {Q : xRes → xF → yD → Prop}
    (h : RY d 256 0 [vr 70] [] V D (yback d 156 12 [vr 70, vi i1] [] Q)) :
    RY d 156 8 [vr 70, vi i1] [] V D Q := yat (c := xk_156) (hd := []) (dk := []) (dv := []) (nb := []) rfl h
set_option maxRecDepth 20000 in
theorem u_156_12 {d : Nat} {i1 : Int} {V : xF} {D : yD} {Q : xRes → xF → yD → Prop}
    (h : RY d 257 0 [vr 404, vr 81, vi i1, vi 1, vr 0, vr 0] [] V D (yback d 156 25 [vr 70, vi i1] [] Q)) :
    RY d 156 12 [vr 70, vi i1] [] V D Q := yat (c := xk_156) (hd := []) (dk := []) (dv := []) (nb := []) rfl h
set_option maxRecDepth 20000 in
theorem u_156_25 {d : Nat} {i1 : Int} {V : xF} {D : yD} {Q : xRes → xF → yD → Prop}
    (h : RY d 214 0 [vr 81, vr 0, vr 0] [] V D (yback d 156 32 [vr 70, vi i1] [] Q)) :
    RY d 156 25 [vr 70, vi i1] [] V D Q := yat (c := xk_156) (hd := []) (dk := []) (dv := []) (nb := []) rfl h
set_option maxRecDepth 20000 in
theorem u_156_32 {d : Nat} {i1 i_0 : Int} {V : xF} {D : yD} {Q : xRes → xF → yD → Prop}
    (h : Q (.inl (some (vi (yr_258 i_0 V D)))) V D) :
    RY d 156 32 [vr 70, vi i1] [vi i_0] V D Q := yat (c := xk_156) (hd := []) (dk := []) (dv := []) (nb := []) rfl h
set_option maxRecDepth 20000 in
theorem u_157_0 {d : Nat} {V : xF} {D : yD} {Q : xRes → xF → yD → Prop}
    (h : ((V 405 6) ≠ 12 → RY d 157 52 [vr 405, vi 0] [] V D Q) ∧ ((V 405 6) = 12 → RY d 157 11 [vr 405, vi 0] [] V D Q)) :
    RY d 157 0 [vr 405, vr 0] [] V D Q := yat (c := xk_157) (hd := [1570011, 1570052]) (dk := []) (dv := []) (nb := [1570006]) rfl h
set_option maxRecDepth 20000 in
theorem u_157_11 {d : Nat} {i1 : Int} {V : xF} {D : yD} {Q : xRes → xF → yD → Prop}
    (h : ((3641 : Int) ≤ i1 → ∀ V1 : xF, V1 = up2 V 405 6 (wr ((V 405 6) - 1)) → RY d 157 52 [vr 405, vi 0] [] V1 D Q) ∧ (i1 < 3641 → (((0 : Int) ≤ wr (i1 + 331) ∧ wr (i1 + 331) < (3972 : Int)) ∧ ((0 : Int) ≤ i1 ∧ i1 < (3972 : Int)) ∧ (∀ V2 : xF, V2 = up2 V 409 i1.toNat (V 409 ((wr (i1 + 331)).toNat)) → RY d 157 11 [vr 405, vi (wr (i1 + 1))] [] V2 D Q)))) :
    RY d 157 11 [vr 405, vi i1] [] V D Q := yat (c := xk_157) (hd := [1570011, 1570052]) (dk := []) (dv := [1570032, 1570033]) (nb := [1570015]) rfl h
set_option maxRecDepth 20000 in
theorem u_157_52 {d : Nat} {i1 : Int} {V : xF} {D : yD} {Q : xRes → xF → yD → Prop}
    (h : ((331 : Int) ≤ i1 → ∀ V1 : xF, V1 = up2 V 405 6 (wr ((V 405 6) + 1)) → Q (.inl none) V1 D) ∧ (i1 < 331 → (((0 : Int) ≤ i1 ∧ i1 < (731 : Int)) ∧ ((0 : Int) ≤ wr ((wr ((331 : Int) * (V 405 6))) + i1) ∧ wr ((wr ((331 : Int) * (V 405 6))) + i1) < (3972 : Int)) ∧ (∀ V2 : xF, V2 = up2 V 409 ((wr ((wr ((331 : Int) * (V 405 6))) + i1)).toNat) (V 406 i1.toNat) → RY d 157 52 [vr 405, vi (wr (i1 + 1))] [] V2 D Q)))) :
    RY d 157 52 [vr 405, vi i1] [] V D Q := yat (c := xk_157) (hd := [1570011, 1570052]) (dk := []) (dv := [1570078, 1570079]) (nb := [1570056]) rfl h
set_option maxRecDepth 20000 in
theorem u_158_0 {d : Nat} {i1 i2 : Int} {V : xF} {D : yD} {Q : xRes → xF → yD → Prop}
    (h : RY d 158 2 [vr 405, vi i1, vi i2, vi 0] [] V D Q) :
    RY d 158 0 [vr 405, vi i1, vi i2, vr 0] [] V D Q := yat (c := xk_158) (hd := [1580002]) (dk := []) (dv := []) (nb := []) rfl h
set_option maxRecDepth 20000 in
theorem u_158_2 {d : Nat} {i1 i2 i3 : Int} {V : xF} {D : yD} {Q : xRes → xF → yD → Prop}
    (h : (i1 ≤ i3 → Q (.inl none) V D) ∧ (i3 < i1 → RY d 259 0 [vr 405, vi i2, vr 0] [] V D (yback d 158 12 [vr 405, vi i1, vi i2, vi i3] [] Q))) :
    RY d 158 2 [vr 405, vi i1, vi i2, vi i3] [] V D Q := yat (c := xk_158) (hd := [1580002]) (dk := []) (dv := []) (nb := [1580004]) rfl h
set_option maxRecDepth 20000 in
theorem u_158_12 {d : Nat} {i1 i2 i3 : Int} {V : xF} {D : yD} {Q : xRes → xF → yD → Prop}
    (h : RY d 158 2 [vr 405, vi i1, vi i2, vi (wr (i3 + 1))] [] V D Q) :
    RY d 158 12 [vr 405, vi i1, vi i2, vi i3] [] V D Q := yat (c := xk_158) (hd := [1580002]) (dk := []) (dv := []) (nb := []) rfl h
set_option maxRecDepth 20000 in
theorem u_159_0 {d : Nat} {V : xF} {D : yD} {Q : xRes → xF → yD → Prop}
    (h : RY d 159 4 [vr 405, vi 0, vi 0] [] V D Q) :
    RY d 159 0 [vr 405, vr 0, vr 0] [] V D Q := yat (c := xk_159) (hd := [1590004]) (dk := []) (dv := []) (nb := []) rfl h
set_option maxRecDepth 20000 in
theorem u_159_4 {d : Nat} {i1 i2 : Int} {V : xF} {D : yD} {Q : xRes → xF → yD → Prop}
    (h : ((V 406 3) ≤ i2 → Q (.inl (some (vi i1))) V D) ∧ (i2 < (V 406 3) → RY d 134 0 [vr 405, vi i2, vr 0, vr 0] [] V D (yback d 159 20 [vr 405, vi i1, vi i2] [vi i1] Q))) :
    RY d 159 4 [vr 405, vi i1, vi i2] [] V D Q := yat (c := xk_159) (hd := [1590004]) (dk := []) (dv := []) (nb := [1590011]) rfl h
set_option maxRecDepth 20000 in
theorem u_159_20 {d : Nat} {i1 i2 i_0 i_1 : Int} {V : xF} {D : yD} {Q : xRes → xF → yD → Prop}
    (h : (i_1 = ((-1)) → RY d 159 4 [vr 405, vi (xor_ i_0 0), vi (wr (i2 + 1))] [] V D Q) ∧ (i_1 ≠ ((-1)) → RY d 159 4 [vr 405, vi (xor_ i_0 (xshl 1 i2)), vi (wr (i2 + 1))] [] V D Q)) :
    RY d 159 20 [vr 405, vi i1, vi i2] [vi i_1, vi i_0] V D Q := yat (c := xk_159) (hd := [1590004]) (dk := []) (dv := []) (nb := [1590021]) rfl h
set_option maxRecDepth 20000 in
theorem u_160_0 {d : Nat} {i0 : Int} {V : xF} {D : yD} {Q : xRes → xF → yD → Prop}
    (h : RY d 160 4 [vi i0, vi 0, vi 0] [] V D Q) :
    RY d 160 0 [vi i0, vr 0, vr 0] [] V D Q := yat (c := xk_160) (hd := [1600004]) (dk := []) (dv := []) (nb := []) rfl h
set_option maxRecDepth 20000 in
theorem u_160_4 {d : Nat} {i0 i1 i2 : Int} {V : xF} {D : yD} {Q : xRes → xF → yD → Prop}
    (h : ((31 : Int) ≤ i2 → Q (.inl (some (vi i1))) V D) ∧ (i2 < 31 → RY d 160 4 [vi i0, vi (wr (i1 + (xand (xshr i0 i2) 1))), vi (wr (i2 + 1))] [] V D Q)) :
    RY d 160 4 [vi i0, vi i1, vi i2] [] V D Q := yat (c := xk_160) (hd := [1600004]) (dk := []) (dv := []) (nb := [1600007]) rfl h
set_option maxRecDepth 20000 in
theorem u_161_0 {d : Nat} {i1 : Int} {V : xF} {D : yD} {Q : xRes → xF → yD → Prop}
    (h : (i1 < 0 → Q (.inr 2) V (D.1, D.2.1, D.2.2.1, D.2.2.2.1, D.2.2.2.2.1 + 1, D.2.2.2.2.2 + 6)) ∧ ((0 : Int) ≤ i1 → ((i1 ≤ 3 → (((V 81 12) ≠ ((-1)) → RY d 260 0 [vr 81, vi (V 81 12), vi (V 81 13), vi i1, vr 0, vr 0] [] V D (yback d 161 58 [vr 70, vi i1, vr 0] [] Q)) ∧ ((V 81 12) = ((-1)) → Q (.inr 1) V (D.1, D.2.1, D.2.2.1, D.2.2.2.1, D.2.2.2.2.1 + 1, D.2.2.2.2.2 + 6)))) ∧ ((3 : Int) < i1 → Q (.inr 2) V (D.1, D.2.1, D.2.2.1, D.2.2.2.1, D.2.2.2.2.1 + 1, D.2.2.2.2.2 + 6))))) :
    RY d 161 0 [vr 70, vi i1, vr 0] [] V D Q := yat (c := xk_161) (hd := []) (dk := []) (dv := []) (nb := [1610001, 1610006, 1610025]) rfl h
set_option maxRecDepth 20000 in
theorem u_161_58 {d : Nat} {i1 i_0 : Int} {V : xF} {D : yD} {Q : xRes → xF → yD → Prop}
    (h : (i_0 ≠ ((-1)) → RY d 256 0 [vr 70] [] V D (yback d 161 76 [vr 70, vi i1, vi i_0] [] Q)) ∧ (i_0 = ((-1)) → Q (.inr 1) V (D.1, D.2.1, D.2.2.1, D.2.2.2.1, D.2.2.2.2.1 + 1, D.2.2.2.2.2 + 6))) :
    RY d 161 58 [vr 70, vi i1, vr 0] [vi i_0] V D Q := yat (c := xk_161) (hd := []) (dk := []) (dv := []) (nb := [1610061]) rfl h
set_option maxRecDepth 20000 in
theorem u_161_76 {d : Nat} {i1 i2 : Int} {V : xF} {D : yD} {Q : xRes → xF → yD → Prop}
    (h : ∀ V1 : xF, V1 = up2 V 81 13 i2 → Q (.inl (some (vi i2))) V1 D) :
    RY d 161 76 [vr 70, vi i1, vi i2] [] V D Q := yat (c := xk_161) (hd := []) (dk := []) (dv := []) (nb := []) rfl h
set_option maxRecDepth 20000 in
theorem u_165_0 {d : Nat} {i1 i2 : Int} {V : xF} {D : yD} {Q : xRes → xF → yD → Prop}
    (h : RY d 157 0 [vr 405, vr 0] [] V D (yback d 165 4 [vr 405, vi i1, vi i2, vr 0] [] Q)) :
    RY d 165 0 [vr 405, vi i1, vi i2, vr 0] [] V D Q := yat (c := xk_165) (hd := []) (dk := []) (dv := []) (nb := []) rfl h
set_option maxRecDepth 20000 in
theorem u_165_4 {d : Nat} {i1 i2 : Int} {V : xF} {D : yD} {Q : xRes → xF → yD → Prop}
    (h : ((0 : Int) ≤ i1 ∧ i1 < (731 : Int)) ∧ ((0 : Int) ≤ i1 ∧ i1 < (731 : Int)) ∧ (∀ V1 : xF, V1 = up2 V 406 i1.toNat i2 → Q (.inl (some (vi (V 406 i1.toNat)))) V1 D)) :
    RY d 165 4 [vr 405, vi i1, vi i2, vr 0] [] V D Q := yat (c := xk_165) (hd := []) (dk := []) (dv := [1650009, 1650017]) (nb := []) rfl h
set_option maxRecDepth 20000 in
theorem u_166_0 {d : Nat} {i1 : Int} {V : xF} {D : yD} {Q : xRes → xF → yD → Prop}
    (h : RY d 235 0 [vr 70, vi i1] [] V D (yback d 166 5 [vr 70, vi i1, vr 0] [] Q)) :
    RY d 166 0 [vr 70, vi i1, vr 0] [] V D Q := yat (c := xk_166) (hd := []) (dk := []) (dv := []) (nb := []) rfl h
set_option maxRecDepth 20000 in
theorem u_166_5 {d : Nat} {i1 : Int} {V : xF} {D : yD} {Q : xRes → xF → yD → Prop}
    (h : RY d 256 0 [vr 70] [] V D (yback d 166 9 [vr 70, vi i1, vr 0] [] Q)) :
    RY d 166 5 [vr 70, vi i1, vr 0] [] V D Q := yat (c := xk_166) (hd := []) (dk := []) (dv := []) (nb := []) rfl h
set_option maxRecDepth 20000 in
theorem u_166_9 {d : Nat} {i1 : Int} {V : xF} {D : yD} {Q : xRes → xF → yD → Prop}
    (h : ∀ V1 : xF, V1 = up2 V 81 12 i1 → (yg_211_81 i1 V1 D ∧ (∀ V2 : xF, V2 = up2 V1 81 13 (yr_211_81 i1 V1 D) → Q (.inl (some (vi (V 81 12)))) V2 D))) :
    RY d 166 9 [vr 70, vi i1, vr 0] [] V D Q := yat (c := xk_166) (hd := []) (dk := []) (dv := []) (nb := []) rfl h
set_option maxRecDepth 20000 in
theorem u_167_0 {d : Nat} {V : xF} {D : yD} {Q : xRes → xF → yD → Prop}
    (h : ((V 81 12) ≠ ((-1)) → RY d 256 0 [vr 70] [] V D (yback d 167 23 [vr 70] [] Q)) ∧ ((V 81 12) = ((-1)) → Q (.inr 1) V (D.1, D.2.1, D.2.2.1, D.2.2.2.1, D.2.2.2.2.1 + 1, D.2.2.2.2.2 + 6))) :
    RY d 167 0 [vr 70] [] V D Q := yat (c := xk_167) (hd := []) (dk := []) (dv := []) (nb := [1670008]) rfl h
set_option maxRecDepth 20000 in
theorem u_167_23 {d : Nat} {V : xF} {D : yD} {Q : xRes → xF → yD → Prop}
    (h : RY d 212 0 [vr 254, vr 81, vi (V 81 12), vi (V 81 13), vr 253, vr 0, vr 0, vr 0] [] V D (yback d 167 52 [vr 70] [] Q)) :
    RY d 167 23 [vr 70] [] V D Q := yat (c := xk_167) (hd := []) (dk := []) (dv := []) (nb := []) rfl h
set_option maxRecDepth 20000 in
theorem u_167_52 {d : Nat} {V : xF} {D : yD} {Q : xRes → xF → yD → Prop}
    (h : RY d 261 0 [vr 90, vi (V 81 12), vr 253, vr 0, vr 0] [] V D (yback d 167 73 [vr 70] [] Q)) :
    RY d 167 52 [vr 70] [] V D Q := yat (c := xk_167) (hd := []) (dk := []) (dv := []) (nb := []) rfl h
set_option maxRecDepth 20000 in
theorem u_167_73 {d : Nat} {i_0 : Int} {V : xF} {D : yD} {Q : xRes → xF → yD → Prop}
    (h : Q (.inl (some (vi i_0))) V D) :
    RY d 167 73 [vr 70] [vi i_0] V D Q := yat (c := xk_167) (hd := []) (dk := []) (dv := []) (nb := []) rfl h
set_option maxRecDepth 20000 in
theorem u_168_0 {d : Nat} {i1 i2 : Int} {V : xF} {D : yD} {Q : xRes → xF → yD → Prop}
    (h : RY d 168 4 [vr 405, vi i1, vi i2, vi 239] [] V D Q) :
    RY d 168 0 [vr 405, vi i1, vi i2, vr 0] [] V D Q := yat (c := xk_168) (hd := [1680004]) (dk := []) (dv := []) (nb := []) rfl h
set_option maxRecDepth 20000 in
theorem u_168_4 {d : Nat} {i1 i2 i3 : Int} {V : xF} {D : yD} {Q : xRes → xF → yD → Prop}
    (h : (i3 < 4 → ∀ V1 : xF, V1 = up2 V 406 91 (V 406 13) → ∀ V2 : xF, V2 = up2 V1 406 92 (V1 406 5) → ∀ V3 : xF, V3 = up2 V2 406 93 i1 → ∀ V4 : xF, V4 = up2 V3 406 94 i2 → ∀ V5 : xF, V5 = up2 V4 406 14 (yr_169 60 (wr ((V4 406 14) + 1)) V4 D) → Q (.inl none) V5 D) ∧ ((4 : Int) ≤ i3 → (((0 : Int) ≤ wr ((wr ((91 : Int) + i3)) - 4) ∧ wr ((wr ((91 : Int) + i3)) - 4) < (731 : Int)) ∧ ((0 : Int) ≤ wr ((91 : Int) + i3) ∧ wr ((91 : Int) + i3) < (731 : Int)) ∧ (∀ V6 : xF, V6 = up2 V 406 ((wr ((91 : Int) + i3)).toNat) (V 406 ((wr ((wr ((91 : Int) + i3)) - 4)).toNat)) → RY d 168 4 [vr 405, vi i1, vi i2, vi (wr (i3 + (-1)))] [] V6 D Q)))) :
    RY d 168 4 [vr 405, vi i1, vi i2, vi i3] [] V D Q := yat (c := xk_168) (hd := [1680004]) (dk := []) (dv := [1680027, 1680028]) (nb := [1680006]) rfl h
set_option maxRecDepth 20000 in
theorem u_170_0 {d : Nat} {i1 i2 i3 : Int} {V : xF} {D : yD} {Q : xRes → xF → yD → Prop}
    (h : RY d 235 0 [vr 70, vi i1] [] V D (yback d 170 5 [vr 70, vi i1, vi i2, vi i3, vr 0] [] Q)) :
    RY d 170 0 [vr 70, vi i1, vi i2, vi i3, vr 0] [] V D Q := yat (c := xk_170) (hd := []) (dk := []) (dv := []) (nb := []) rfl h
set_option maxRecDepth 20000 in
theorem u_170_5 {d : Nat} {i1 i2 i3 : Int} {V : xF} {D : yD} {Q : xRes → xF → yD → Prop}
    (h : (i2 < 0 → Q (.inr 2) V (D.1, D.2.1, D.2.2.1, D.2.2.2.1, D.2.2.2.2.1 + 1, D.2.2.2.2.2 + 6)) ∧ ((0 : Int) ≤ i2 → (((3 : Int) < i2 → Q (.inr 2) V (D.1, D.2.1, D.2.2.1, D.2.2.2.1, D.2.2.2.2.1 + 1, D.2.2.2.2.2 + 6)) ∧ (i2 ≤ 3 → ((i3 < 0 → Q (.inr 2) V (D.1, D.2.1, D.2.2.1, D.2.2.2.1, D.2.2.2.2.1 + 1, D.2.2.2.2.2 + 6)) ∧ ((0 : Int) ≤ i3 → ((i3 < 5 → RY d 256 0 [vr 70] [] V D (yback d 170 35 [vr 70, vi i1, vi i2, vi i3, vr 0] [] Q)) ∧ ((5 : Int) ≤ i3 → Q (.inr 2) V (D.1, D.2.1, D.2.2.1, D.2.2.2.1, D.2.2.2.2.1 + 1, D.2.2.2.2.2 + 6))))))))) :
    RY d 170 5 [vr 70, vi i1, vi i2, vi i3, vr 0] [] V D Q := yat (c := xk_170) (hd := []) (dk := []) (dv := []) (nb := [1700006, 1700011, 1700015, 1700020]) rfl h
set_option maxRecDepth 20000 in
theorem u_170_35 {d : Nat} {i1 i2 i3 : Int} {V : xF} {D : yD} {Q : xRes → xF → yD → Prop}
    (h : ((0 : Int) ≤ wr ((wr ((4 : Int) * i1)) + i2) ∧ wr ((wr ((4 : Int) * i1)) + i2) < (20 : Int)) ∧ ((0 : Int) ≤ wr ((wr ((4 : Int) * i1)) + i2) ∧ wr ((wr ((4 : Int) * i1)) + i2) < (20 : Int)) ∧ (∀ V1 : xF, V1 = up2 V 84 ((wr ((wr ((4 : Int) * i1)) + i2)).toNat) i3 → Q (.inl (some (vi (V 84 ((wr ((wr ((4 : Int) * i1)) + i2)).toNat))))) V1 D)) :
    RY d 170 35 [vr 70, vi i1, vi i2, vi i3, vr 0] [] V D Q := yat (c := xk_170) (hd := []) (dk := []) (dv := [1700047, 1700063]) (nb := []) rfl h
set_option maxRecDepth 20000 in
theorem u_171_0 {d : Nat} {i1 i2 i3 : Int} {V : xF} {D : yD} {Q : xRes → xF → yD → Prop}
    (h : RY d 250 0 [vr 70, vi i1, vi i2] [] V D (yback d 171 6 [vr 70, vi i1, vi i2, vi i3, vr 0] [] Q)) :
    RY d 171 0 [vr 70, vi i1, vi i2, vi i3, vr 0] [] V D Q := yat (c := xk_171) (hd := []) (dk := []) (dv := []) (nb := []) rfl h
set_option maxRecDepth 20000 in
theorem u_171_6 {d : Nat} {i1 i2 i3 : Int} {V : xF} {D : yD} {Q : xRes → xF → yD → Prop}
    (h : RY d 256 0 [vr 70] [] V D (yback d 171 10 [vr 70, vi i1, vi i2, vi i3, vr 0] [] Q)) :
    RY d 171 6 [vr 70, vi i1, vi i2, vi i3, vr 0] [] V D Q := yat (c := xk_171) (hd := []) (dk := []) (dv := []) (nb := []) rfl h
set_option maxRecDepth 20000 in
theorem u_171_10 {d : Nat} {i1 i2 i3 : Int} {V : xF} {D : yD} {Q : xRes → xF → yD → Prop}
    (h : yg_251_81 i1 i2 V D ∧ RY d 262 0 [vr 81, vi i1, vi i2, vi i3] [] V D (yback d 171 31 [vr 70, vi i1, vi i2, vi i3, vi (yr_251_81 i1 i2 V D)] [] Q)) :
    RY d 171 10 [vr 70, vi i1, vi i2, vi i3, vr 0] [] V D Q := yat (c := xk_171) (hd := []) (dk := []) (dv := []) (nb := []) rfl h
set_option maxRecDepth 20000 in
theorem u_171_31 {d : Nat} {i1 i2 i3 i4 : Int} {V : xF} {D : yD} {Q : xRes → xF → yD → Prop}
    (h : (i4 = i3 → Q (.inl (some (vi 0))) V D) ∧ (i4 ≠ i3 → Q (.inl (some (vi 1))) V D)) :
    RY d 171 31 [vr 70, vi i1, vi i2, vi i3, vi i4] [] V D Q := yat (c := xk_171) (hd := []) (dk := []) (dv := []) (nb := [1710034]) rfl h
set_option maxRecDepth 20000 in
theorem u_173_0 {d : Nat} {i1 i2 : Int} {V : xF} {D : yD} {Q : xRes → xF → yD → Prop}
    (h : RY d 235 0 [vr 70, vi i1] [] V D (yback d 173 5 [vr 70, vi i1, vi i2, vr 0] [] Q)) :
    RY d 173 0 [vr 70, vi i1, vi i2, vr 0] [] V D Q := yat (c := xk_173) (hd := []) (dk := []) (dv := []) (nb := []) rfl h
set_option maxRecDepth 20000 in
theorem u_173_5 {d : Nat} {i1 i2 : Int} {V : xF} {D : yD} {Q : xRes → xF → yD → Prop}
    (h : RY d 255 0 [vr 70, vi i2, vi 0, vi 99] [] V D (yback d 173 13 [vr 70, vi i1, vi i2, vr 0] [] Q)) :
    RY d 173 5 [vr 70, vi i1, vi i2, vr 0] [] V D Q := yat (c := xk_173) (hd := []) (dk := []) (dv := []) (nb := []) rfl h
set_option maxRecDepth 20000 in
theorem u_173_13 {d : Nat} {i1 i2 : Int} {V : xF} {D : yD} {Q : xRes → xF → yD → Prop}
    (h : RY d 256 0 [vr 70] [] V D (yback d 173 17 [vr 70, vi i1, vi i2, vr 0] [] Q)) :
    RY d 173 13 [vr 70, vi i1, vi i2, vr 0] [] V D Q := yat (c := xk_173) (hd := []) (dk := []) (dv := []) (nb := []) rfl h
set_option maxRecDepth 20000 in
theorem u_173_17 {d : Nat} {i1 i2 : Int} {V : xF} {D : yD} {Q : xRes → xF → yD → Prop}
    (h : ((0 : Int) ≤ i1 ∧ i1 < (5 : Int)) ∧ ((0 : Int) ≤ i1 ∧ i1 < (5 : Int)) ∧ (∀ V1 : xF, V1 = up2 V 85 i1.toNat i2 → Q (.inl (some (vi (V 85 i1.toNat)))) V1 D)) :
    RY d 173 17 [vr 70, vi i1, vi i2, vr 0] [] V D Q := yat (c := xk_173) (hd := []) (dk := []) (dv := [1730025, 1730036]) (nb := []) rfl h
set_option maxRecDepth 20000 in
theorem u_174_0 {d : Nat} {i1 i2 : Int} {V : xF} {D : yD} {Q : xRes → xF → yD → Prop}
    (h : RY d 242 0 [vr 70, vi i1] [] V D (yback d 174 5 [vr 70, vi i1, vi i2, vr 0] [] Q)) :
    RY d 174 0 [vr 70, vi i1, vi i2, vr 0] [] V D Q := yat (c := xk_174) (hd := []) (dk := []) (dv := []) (nb := []) rfl h
set_option maxRecDepth 20000 in
theorem u_174_5 {d : Nat} {i1 i2 : Int} {V : xF} {D : yD} {Q : xRes → xF → yD → Prop}
    (h : (i2 = ((-1)) → RY d 256 0 [vr 70] [] V D (yback d 174 46 [vr 70, vi i1, vi i2, vr 0] [] Q)) ∧ (i2 ≠ ((-1)) → RY d 235 0 [vr 70, vi i2] [] V D (yback d 174 15 [vr 70, vi i1, vi i2, vr 0] [] Q))) :
    RY d 174 5 [vr 70, vi i1, vi i2, vr 0] [] V D Q := yat (c := xk_174) (hd := []) (dk := []) (dv := []) (nb := [1740007]) rfl h
set_option maxRecDepth 20000 in
theorem u_174_15 {d : Nat} {i1 i2 : Int} {V : xF} {D : yD} {Q : xRes → xF → yD → Prop}
    (h : RY d 236 0 [vr 81, vi i2, vr 0] [] V D (yback d 174 23 [vr 70, vi i1, vi i2, vr 0] [] Q)) :
    RY d 174 15 [vr 70, vi i1, vi i2, vr 0] [] V D Q := yat (c := xk_174) (hd := []) (dk := []) (dv := []) (nb := []) rfl h
set_option maxRecDepth 20000 in
theorem u_174_23 {d : Nat} {i1 i2 i_0 : Int} {V : xF} {D : yD} {Q : xRes → xF → yD → Prop}
    (h : (i_0 = ((-1)) → RY d 256 0 [vr 70] [] V D (yback d 174 46 [vr 70, vi i1, vi i2, vi i_0] [] Q)) ∧ (i_0 ≠ ((-1)) → ((i_0 = i1 → RY d 256 0 [vr 70] [] V D (yback d 174 46 [vr 70, vi i1, vi i2, vi i_0] [] Q)) ∧ (i_0 ≠ i1 → Q (.inr 1) V (D.1, D.2.1, D.2.2.1, D.2.2.2.1, D.2.2.2.2.1 + 1, D.2.2.2.2.2 + 6))))) :
    RY d 174 23 [vr 70, vi i1, vi i2, vr 0] [vi i_0] V D Q := yat (c := xk_174) (hd := []) (dk := []) (dv := []) (nb := [1740026, 1740031]) rfl h
set_option maxRecDepth 20000 in
theorem u_174_46 {d : Nat} {i1 i2 : Int} {v3 : xV} {V : xF} {D : yD} {Q : xRes → xF → yD → Prop}
    (h : ((0 : Int) ≤ i1 ∧ i1 < (5 : Int)) ∧ ((0 : Int) ≤ i1 ∧ i1 < (5 : Int)) ∧ (∀ V1 : xF, V1 = up2 V 89 i1.toNat i2 → Q (.inl (some (vi (V 89 i1.toNat)))) V1 D)) :
    RY d 174 46 [vr 70, vi i1, vi i2, v3] [] V D Q := yat (c := xk_174) (hd := []) (dk := []) (dv := [1740054, 1740065]) (nb := []) rfl h
set_option maxRecDepth 20000 in
theorem u_175_0 {d : Nat} {i1 i2 i3 : Int} {V : xF} {D : yD} {Q : xRes → xF → yD → Prop}
    (h : RY d 252 0 [vr 70, vi i1, vi i2, vi i3] [] V D (yback d 175 7 [vr 70, vi i1, vi i2, vi i3] [] Q)) :
    RY d 175 0 [vr 70, vi i1, vi i2, vi i3] [] V D Q := yat (c := xk_175) (hd := []) (dk := []) (dv := []) (nb := []) rfl h
set_option maxRecDepth 20000 in
theorem u_175_7 {d : Nat} {i1 i2 i3 : Int} {V : xF} {D : yD} {Q : xRes → xF → yD → Prop}
    (h : RY d 253 0 [vr 253, vi 0, vr 0, vr 0] [] V D (yback d 175 15 [vr 70, vi i1, vi i2, vi i3] [] Q)) :
    RY d 175 7 [vr 70, vi i1, vi i2, vi i3] [] V D Q := yat (c := xk_175) (hd := []) (dk := []) (dv := []) (nb := []) rfl h
set_option maxRecDepth 20000 in
theorem u_175_15 {d : Nat} {i1 i2 i3 i_0 : Int} {V : xF} {D : yD} {Q : xRes → xF → yD → Prop}
    (h : Q (.inl (some (vi i_0))) V D) :
    RY d 175 15 [vr 70, vi i1, vi i2, vi i3] [vi i_0] V D Q := yat (c := xk_175) (hd := []) (dk := []) (dv := []) (nb := []) rfl h
set_option maxRecDepth 20000 in
theorem u_176_0 {d : Nat} {i1 i2 i3 : Int} {V : xF} {D : yD} {Q : xRes → xF → yD → Prop}
    (h : RY d 252 0 [vr 70, vi i1, vi i2, vi i3] [] V D (yback d 176 7 [vr 70, vi i1, vi i2, vi i3] [] Q)) :
    RY d 176 0 [vr 70, vi i1, vi i2, vi i3] [] V D Q := yat (c := xk_176) (hd := []) (dk := []) (dv := []) (nb := []) rfl h
set_option maxRecDepth 20000 in
theorem u_176_7 {d : Nat} {i1 i2 i3 : Int} {V : xF} {D : yD} {Q : xRes → xF → yD → Prop}
    (h : RY d 213 0 [vr 253, vr 0, vr 0] [] V D (yback d 176 18 [vr 70, vi i1, vi i2, vi i3] [vr 253] Q)) :
    RY d 176 7 [vr 70, vi i1, vi i2, vi i3] [] V D Q := yat (c := xk_176) (hd := []) (dk := []) (dv := []) (nb := []) rfl h
set_option maxRecDepth 20000 in
theorem u_176_18 {d : Nat} {i1 i2 i3 i_1 : Int} {V : xF} {D : yD} {Q : xRes → xF → yD → Prop}
    (h : RY d 253 0 [vr 253, vi (wr (i_1 - 1)), vr 0, vr 0] [] V D (yback d 176 23 [vr 70, vi i1, vi i2, vi i3] [] Q)) :
    RY d 176 18 [vr 70, vi i1, vi i2, vi i3] [vi i_1, vr 253] V D Q := yat (c := xk_176) (hd := []) (dk := []) (dv := []) (nb := []) rfl h
set_option maxRecDepth 20000 in
theorem u_176_23 {d : Nat} {i1 i2 i3 i_0 : Int} {V : xF} {D : yD} {Q : xRes → xF → yD → Prop}
    (h : Q (.inl (some (vi i_0))) V D) :
    RY d 176 23 [vr 70, vi i1, vi i2, vi i3] [vi i_0] V D Q := yat (c := xk_176) (hd := []) (dk := []) (dv := []) (nb := []) rfl h
set_option maxRecDepth 20000 in
theorem u_177_0 {d : Nat} {i1 i2 i3 : Int} {V : xF} {D : yD} {Q : xRes → xF → yD → Prop}
    (h : RY d 252 0 [vr 70, vi i1, vi i2, vi i3] [] V D (yback d 177 7 [vr 70, vi i1, vi i2, vi i3] [] Q)) :
    RY d 177 0 [vr 70, vi i1, vi i2, vi i3] [] V D Q := yat (c := xk_177) (hd := []) (dk := []) (dv := []) (nb := []) rfl h
set_option maxRecDepth 20000 in
theorem u_177_7 {d : Nat} {i1 i2 i3 : Int} {V : xF} {D : yD} {Q : xRes → xF → yD → Prop}
    (h : RY d 263 0 [vr 253, vr 0, vr 0] [] V D (yback d 177 14 [vr 70, vi i1, vi i2, vi i3] [] Q)) :
    RY d 177 7 [vr 70, vi i1, vi i2, vi i3] [] V D Q := yat (c := xk_177) (hd := []) (dk := []) (dv := []) (nb := []) rfl h
set_option maxRecDepth 20000 in
theorem u_177_14 {d : Nat} {i1 i2 i3 i_0 : Int} {V : xF} {D : yD} {Q : xRes → xF → yD → Prop}
    (h : Q (.inl (some (vi i_0))) V D) :
    RY d 177 14 [vr 70, vi i1, vi i2, vi i3] [vi i_0] V D Q := yat (c := xk_177) (hd := []) (dk := []) (dv := []) (nb := []) rfl h
set_option maxRecDepth 20000 in
theorem u_178_0 {d : Nat} {V : xF} {D : yD} {Q : xRes → xF → yD → Prop}
    (h : RY d 178 5 [vr 405, vi ((-1)), vi 63] [] V D Q) :
    RY d 178 0 [vr 405, vr 0, vr 0] [] V D Q := yat (c := xk_178) (hd := [1780005]) (dk := []) (dv := []) (nb := []) rfl h
set_option maxRecDepth 20000 in
theorem u_178_5 {d : Nat} {i1 i2 : Int} {V : xF} {D : yD} {Q : xRes → xF → yD → Prop}
    (h : (i2 < 0 → Q (.inl (some (vi i1))) V D) ∧ ((0 : Int) ≤ i2 → (((0 : Int) ≤ i2 ∧ i2 < (64 : Int)) ∧ (((V 412 i2.toNat) ≤ 0 → RY d 178 5 [vr 405, vi i1, vi (wr (i2 + (-1)))] [] V D Q) ∧ ((0 : Int) < (V 412 i2.toNat) → ((i1 = ((-1)) → RY d 178 5 [vr 405, vi i2, vi (wr (i2 + (-1)))] [] V D Q) ∧ (i1 ≠ ((-1)) → (((0 : Int) ≤ i2 ∧ i2 < (64 : Int)) ∧ ((0 : Int) ≤ i1 ∧ i1 < (64 : Int)) ∧ (((V 412 i2.toNat) < (V 412 i1.toNat) → RY d 178 5 [vr 405, vi i1, vi (wr (i2 + (-1)))] [] V D Q) ∧ ((V 412 i1.toNat) ≤ (V 412 i2.toNat) → RY d 178 5 [vr 405, vi i2, vi (wr (i2 + (-1)))] [] V D Q)))))))))) :
    RY d 178 5 [vr 405, vi i1, vi i2] [] V D Q := yat (c := xk_178) (hd := [1780005]) (dk := []) (dv := [1780014, 1780028, 1780034]) (nb := [1780006, 1780015, 1780020, 1780035]) rfl h
set_option maxRecDepth 20000 in
theorem u_179_0 {d : Nat} {i1 i2 i3 i4 : Int} {V : xF} {D : yD} {Q : xRes → xF → yD → Prop}
    (h : RY d 264 0 [vr 70, vi i1, vi i2, vi i3] [] V D (yback d 179 7 [vr 70, vi i1, vi i2, vi i3, vi i4] [] Q)) :
    RY d 179 0 [vr 70, vi i1, vi i2, vi i3, vi i4] [] V D Q := yat (c := xk_179) (hd := []) (dk := []) (dv := []) (nb := []) rfl h
set_option maxRecDepth 20000 in
theorem u_179_7 {d : Nat} {i1 i2 i3 i4 : Int} {V : xF} {D : yD} {Q : xRes → xF → yD → Prop}
    (h : RY d 266 0 [vr 254, vr 81, vi i1, vi (yr_265 i2 i3 V D), vi i4, vr 0, vr 0, vr 0, vr 0] [] V D (yback d 179 26 [vr 70, vi i1, vi i2, vi i3, vi i4] [] Q)) :
    RY d 179 7 [vr 70, vi i1, vi i2, vi i3, vi i4] [] V D Q := yat (c := xk_179) (hd := []) (dk := []) (dv := []) (nb := []) rfl h
set_option maxRecDepth 20000 in
theorem u_179_26 {d : Nat} {i1 i2 i3 i4 i_0 : Int} {V : xF} {D : yD} {Q : xRes → xF → yD → Prop}
    (h : Q (.inl (some (vi i_0))) V D) :
    RY d 179 26 [vr 70, vi i1, vi i2, vi i3, vi i4] [vi i_0] V D Q := yat (c := xk_179) (hd := []) (dk := []) (dv := []) (nb := []) rfl h
set_option maxRecDepth 20000 in
theorem u_180_0 {d : Nat} {i1 i2 : Int} {V : xF} {D : yD} {Q : xRes → xF → yD → Prop}
    (h : RY d 267 0 [vr 76, vr 0, vr 0, vr 0, vr 0] [] V D (yback d 180 7 [vr 70, vi i1, vi i2, vr 0] [] Q)) :
    RY d 180 0 [vr 70, vi i1, vi i2, vr 0] [] V D Q := yat (c := xk_180) (hd := []) (dk := []) (dv := []) (nb := []) rfl h
set_option maxRecDepth 20000 in
theorem u_180_7 {d : Nat} {i1 i2 i_0 : Int} {V : xF} {D : yD} {Q : xRes → xF → yD → Prop}
    (h : RY d 235 0 [vr 70, vi i1] [] V D (yback d 180 13 [vr 70, vi i1, vi i2, vi i_0] [] Q)) :
    RY d 180 7 [vr 70, vi i1, vi i2, vr 0] [vi i_0] V D Q := yat (c := xk_180) (hd := []) (dk := []) (dv := []) (nb := []) rfl h
set_option maxRecDepth 20000 in
theorem u_180_13 {d : Nat} {i1 i2 i3 : Int} {V : xF} {D : yD} {Q : xRes → xF → yD → Prop}
    (h : RY d 268 0 [vr 70, vi i3] [] V D (yback d 180 18 [vr 70, vi i1, vi i2, vi i3] [] Q)) :
    RY d 180 13 [vr 70, vi i1, vi i2, vi i3] [] V D Q := yat (c := xk_180) (hd := []) (dk := []) (dv := []) (nb := []) rfl h
set_option maxRecDepth 20000 in
theorem u_180_18 {d : Nat} {i1 i2 i3 : Int} {V : xF} {D : yD} {Q : xRes → xF → yD → Prop}
    (h : RY d 269 0 [vr 256, vr 81, vi i1, vr 76, vi i2, vr 0, vr 0] [] V D (yback d 180 35 [vr 70, vi i1, vi i2, vi i3] [] Q)) :
    RY d 180 18 [vr 70, vi i1, vi i2, vi i3] [] V D Q := yat (c := xk_180) (hd := []) (dk := []) (dv := []) (nb := []) rfl h
set_option maxRecDepth 20000 in
theorem u_180_35 {d : Nat} {i1 i2 i3 i_0 : Int} {V : xF} {D : yD} {Q : xRes → xF → yD → Prop}
    (h : Q (.inl (some (vi i_0))) V D) :
    RY d 180 35 [vr 70, vi i1, vi i2, vi i3] [vi i_0] V D Q := yat (c := xk_180) (hd := []) (dk := []) (dv := []) (nb := []) rfl h
set_option maxRecDepth 20000 in
theorem u_181_0 {d : Nat} {i1 : Int} {V : xF} {D : yD} {Q : xRes → xF → yD → Prop}
    (h : ∀ V1 : xF, V1 = up2 V 405 8 0 → ((i1 ≠ 0 → RY d 270 0 [vr 405, vi (V 405 8), vr 0, vr 0] [] V1 D (yback d 181 24 [vr 405, vi i1, vi (V 405 8)] [vr 405] Q)) ∧ (i1 = 0 → ∀ V2 : xF, V2 = up2 V1 405 0 1 → Q (.inl (some (vi (V 405 8)))) V2 D))) :
    RY d 181 0 [vr 405, vi i1, vr 0] [] V D Q := yat (c := xk_181) (hd := []) (dk := []) (dv := []) (nb := [1810012]) rfl h
set_option maxRecDepth 20000 in
theorem u_181_24 {d : Nat} {i1 i2 i_1 : Int} {V : xF} {D : yD} {Q : xRes → xF → yD → Prop}
    (h : (i_1 ≠ 0 → ∀ V1 : xF, V1 = up2 V 405 0 0 → Q (.inl (some (vi i2))) V1 D) ∧ (i_1 = 0 → ∀ V2 : xF, V2 = up2 V 405 0 2 → Q (.inl (some (vi i2))) V2 D)) :
    RY d 181 24 [vr 405, vi i1, vi i2] [vi i_1, vr 405] V D Q := yat (c := xk_181) (hd := []) (dk := []) (dv := []) (nb := [1810024]) rfl h
set_option maxRecDepth 20000 in
theorem u_182_0 {d : Nat} {i1 i2 : Int} {V : xF} {D : yD} {Q : xRes → xF → yD → Prop}
    (h : RY d 182 5 [vr 405, vi i1, vi i2, vi 0, vi 0, vr 0, vr 0, vr 0] [] V D Q) :
    RY d 182 0 [vr 405, vi i1, vi i2, vr 0, vr 0, vr 0, vr 0, vr 0] [] V D Q := yat (c := xk_182) (hd := [1820005, 1820030, 1820044, 1820087]) (dk := []) (dv := []) (nb := []) rfl h
set_option maxRecDepth 20000 in
theorem u_182_5 {d : Nat} {i1 i2 i3 i4 : Int} {V : xF} {D : yD} {Q : xRes → xF → yD → Prop}
    (h : ((256 : Int) ≤ i4 → RY d 182 30 [vr 405, vi i1, vi i2, vi i3, vi 1, vr 0, vr 0, vr 0] [] V D Q) ∧ (i4 < 256 → (((0 : Int) ≤ i4 ∧ i4 < (256 : Int)) ∧ ((0 : Int) = 0 ∨ (0 : Int) = 1) ∧ (∀ V1 : xF, V1 = up2 V 415 i4.toNat 0 → RY d 182 5 [vr 405, vi i1, vi i2, vi i3, vi (wr (i4 + 1)), vr 0, vr 0, vr 0] [] V1 D Q)))) :
    RY d 182 5 [vr 405, vi i1, vi i2, vi i3, vi i4, vr 0, vr 0, vr 0] [] V D Q := yat (c := xk_182) (hd := [1820005, 1820030, 1820044, 1820087]) (dk := []) (dv := [1820020]) (nb := [1820010]) rfl h
set_option maxRecDepth 20000 in
theorem u_182_30 {d : Nat} {i1 i2 i3 i4 : Int} {v5 v6 v7 : xV} {V : xF} {D : yD} {Q : xRes → xF → yD → Prop}
    (h : yg_133 i1 0 V D ∧ (((yr_133 i1 0 V D) ≤ i4 → Q (.inl (some (vi i3))) V D) ∧ (i4 < (yr_133 i1 0 V D) → RY d 182 44 [vr 405, vi i1, vi i2, vi i3, vi i4, vi 1, v6, v7] [] V D Q))) :
    RY d 182 30 [vr 405, vi i1, vi i2, vi i3, vi i4, v5, v6, v7] [] V D Q := yat (c := xk_182) (hd := [1820005, 1820030, 1820044, 1820087]) (dk := []) (dv := []) (nb := [1820038]) rfl h
set_option maxRecDepth 20000 in
theorem u_182_44 {d : Nat} {i1 i2 i3 i4 i5 : Int} {v6 v7 : xV} {V : xF} {D : yD} {Q : xRes → xF → yD → Prop}
    (h : yg_133 i1 1 V D ∧ (((yr_133 i1 1 V D) ≤ i5 → RY d 182 30 [vr 405, vi i1, vi i2, vi i3, vi (wr (i4 + 1)), vi i5, v6, v7] [] V D Q) ∧ (i5 < (yr_133 i1 1 V D) → RY d 155 0 [vr 405, vi i1, vi i4, vi i5, vr 0, vr 0, vr 0, vr 0] [] V D (yback d 182 64 [vr 405, vi i1, vi i2, vi i3, vi i4, vi i5, v6, v7] [] Q)))) :
    RY d 182 44 [vr 405, vi i1, vi i2, vi i3, vi i4, vi i5, v6, v7] [] V D Q := yat (c := xk_182) (hd := [1820005, 1820030, 1820044, 1820087]) (dk := []) (dv := []) (nb := [1820052]) rfl h
