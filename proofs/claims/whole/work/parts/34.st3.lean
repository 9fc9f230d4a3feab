/-! ===== STRETCHES 3 (printed by wip/whole/ym.py) ===== -/
set_option maxRecDepth 20000 in
theorem u_182_64 {d : Nat} {i1 i2 i3 i4 i5 i_0 : Int} {v6 v7 : xV} {V : xF} {D : yD} {Q : xRes → xF → yD → Prop}
    (h : RY d 187 0 [vr 405, vi i2, vr 0, vr 0] [] V D (yback d 182 83 [vr 405, vi i1, vi i2, vi i3, vi i4, vi i5, vi i_0, v7] [vi (wr ((wr ((16 : Int) * i4)) + i5)), vr 415] Q)) :
    RY d 182 64 [vr 405, vi i1, vi i2, vi i3, vi i4, vi i5, v6, v7] [vi i_0] V D Q := yat (c := xk_182) (hd := [1820005, 1820030, 1820044, 1820087]) (dk := []) (dv := []) (nb := []) rfl h
set_option maxRecDepth 20000 in
theorem u_182_83 {d : Nat} {i1 i2 i3 i4 i5 i6 i_1 i_2 : Int} {v7 : xV} {V : xF} {D : yD} {Q : xRes → xF → yD → Prop}
    (h : ((0 : Int) ≤ i_1 ∧ i_1 < (256 : Int)) ∧ (i_2 = 0 ∨ i_2 = 1) ∧ (∀ V1 : xF, V1 = up2 V 415 i_1.toNat i_2 → RY d 182 87 [vr 405, vi i1, vi i2, vi i3, vi i4, vi i5, vi i6, vi 0] [] V1 D Q)) :
    RY d 182 83 [vr 405, vi i1, vi i2, vi i3, vi i4, vi i5, vi i6, v7] [vi i_2, vi i_1, vr 415] V D Q := yat (c := xk_182) (hd := [1820005, 1820030, 1820044, 1820087]) (dk := []) (dv := [1820083]) (nb := []) rfl h
set_option maxRecDepth 20000 in
theorem u_182_87 {d : Nat} {i1 i2 i3 i4 i5 i6 i7 : Int} {V : xF} {D : yD} {Q : xRes → xF → yD → Prop}
    (h : ((64 : Int) ≤ i7 → (((0 : Int) ≤ wr ((wr ((16 : Int) * i4)) + i5) ∧ wr ((wr ((16 : Int) * i4)) + i5) < (256 : Int)) ∧ (((V 415 ((wr ((wr ((16 : Int) * i4)) + i5)).toNat)) = 0 → RY d 182 44 [vr 405, vi i1, vi i2, vi (wr (i3 + 0)), vi i4, vi (wr (i5 + 1)), vi i6, vi i7] [] V D Q) ∧ ((V 415 ((wr ((wr ((16 : Int) * i4)) + i5)).toNat)) ≠ 0 → RY d 182 44 [vr 405, vi i1, vi i2, vi (wr (i3 + 1)), vi i4, vi (wr (i5 + 1)), vi i6, vi i7] [] V D Q)))) ∧ (i7 < 64 → (((0 : Int) ≤ i7 ∧ i7 < (64 : Int)) ∧ ((0 : Int) ≤ wr ((wr ((64 : Int) * (wr ((wr ((16 : Int) * i4)) + i5)))) + i7) ∧ wr ((wr ((64 : Int) * (wr ((wr ((16 : Int) * i4)) + i5)))) + i7) < (16384 : Int)) ∧ (∀ V1 : xF, V1 = up2 V 417 ((wr ((wr ((64 : Int) * (wr ((wr ((16 : Int) * i4)) + i5)))) + i7)).toNat) (V 412 i7.toNat) → RY d 182 87 [vr 405, vi i1, vi i2, vi i3, vi i4, vi i5, vi i6, vi (wr (i7 + 1))] [] V1 D Q)))) :
    RY d 182 87 [vr 405, vi i1, vi i2, vi i3, vi i4, vi i5, vi i6, vi i7] [] V D Q := yat (c := xk_182) (hd := [1820005, 1820030, 1820044, 1820087]) (dk := []) (dv := [1820118, 1820119, 1820139]) (nb := [1820091, 1820140]) rfl h
set_option maxRecDepth 20000 in
theorem u_183_0 {d : Nat} {i1 : Int} {V : xF} {D : yD} {Q : xRes → xF → yD → Prop}
    (h : RY d 267 0 [vr 76, vr 0, vr 0, vr 0, vr 0] [] V D (yback d 183 7 [vr 70, vi i1, vr 0] [] Q)) :
    RY d 183 0 [vr 70, vi i1, vr 0] [] V D Q := yat (c := xk_183) (hd := []) (dk := []) (dv := []) (nb := []) rfl h
set_option maxRecDepth 20000 in
theorem u_183_7 {d : Nat} {i1 i_0 : Int} {V : xF} {D : yD} {Q : xRes → xF → yD → Prop}
    (h : RY d 235 0 [vr 70, vi i1] [] V D (yback d 183 13 [vr 70, vi i1, vi i_0] [] Q)) :
    RY d 183 7 [vr 70, vi i1, vr 0] [vi i_0] V D Q := yat (c := xk_183) (hd := []) (dk := []) (dv := []) (nb := []) rfl h
set_option maxRecDepth 20000 in
theorem u_183_13 {d : Nat} {i1 i2 : Int} {V : xF} {D : yD} {Q : xRes → xF → yD → Prop}
    (h : RY d 268 0 [vr 70, vi i2] [] V D (yback d 183 18 [vr 70, vi i1, vi i2] [] Q)) :
    RY d 183 13 [vr 70, vi i1, vi i2] [] V D Q := yat (c := xk_183) (hd := []) (dk := []) (dv := []) (nb := []) rfl h
set_option maxRecDepth 20000 in
theorem u_183_18 {d : Nat} {i1 i2 : Int} {V : xF} {D : yD} {Q : xRes → xF → yD → Prop}
    (h : RY d 271 0 [vr 256, vr 81, vi i1, vr 76, vr 0, vr 0, vr 0, vr 0, vr 0, vr 0] [] V D (yback d 183 34 [vr 70, vi i1, vi i2] [] Q)) :
    RY d 183 18 [vr 70, vi i1, vi i2] [] V D Q := yat (c := xk_183) (hd := []) (dk := []) (dv := []) (nb := []) rfl h
set_option maxRecDepth 20000 in
theorem u_183_34 {d : Nat} {i1 i2 i_0 : Int} {V : xF} {D : yD} {Q : xRes → xF → yD → Prop}
    (h : Q (.inl (some (vi i_0))) V D) :
    RY d 183 34 [vr 70, vi i1, vi i2] [vi i_0] V D Q := yat (c := xk_183) (hd := []) (dk := []) (dv := []) (nb := []) rfl h
set_option maxRecDepth 20000 in
theorem u_184_0 {d : Nat} {i1 i2 i3 : Int} {V : xF} {D : yD} {Q : xRes → xF → yD → Prop}
    (h : yg_164 i1 (wr ((wr (i2.tdiv 16)) + (yr_162 i3 V D))) (wr ((i2.tmod 16) + (yr_163 i3 V D))) V D ∧ RY d 184 39 [vr 405, vi i1, vi i2, vi i3, vi (wr ((wr (i2.tdiv 16)) + (yr_162 i3 V D))), vi (wr ((i2.tmod 16) + (yr_163 i3 V D))), vi (yr_164 i1 (wr ((wr (i2.tdiv 16)) + (yr_162 i3 V D))) (wr ((i2.tmod 16) + (yr_163 i3 V D))) V D), vi 0, vi 0, vr 0, vr 0] [] V D Q) :
    RY d 184 0 [vr 405, vi i1, vi i2, vi i3, vr 0, vr 0, vr 0, vr 0, vr 0, vr 0, vr 0] [] V D Q := yat (c := xk_184) (hd := [1840039]) (dk := []) (dv := []) (nb := []) rfl h
set_option maxRecDepth 20000 in
theorem u_184_39 {d : Nat} {i1 i2 i3 i4 i5 i6 i7 i8 : Int} {v9 v10 : xV} {V : xF} {D : yD} {Q : xRes → xF → yD → Prop}
    (h : ((256 : Int) ≤ i8 → Q (.inl (some (vi i7))) V D) ∧ (i8 < 256 → (((0 : Int) ≤ i8 ∧ i8 < (256 : Int)) ∧ (((V 415 i8.toNat) ≠ 0 → (yg_164 i1 (wr ((wr (i8.tdiv 16)) + (yr_162 i3 V D))) (wr ((i8.tmod 16) + (yr_163 i3 V D))) V D ∧ (((yr_164 i1 (wr ((wr (i8.tdiv 16)) + (yr_162 i3 V D))) (wr ((i8.tmod 16) + (yr_163 i3 V D))) V D) = i6 → ((i6 = 0 → RY d 184 39 [vr 405, vi i1, vi i2, vi i3, vi i4, vi i5, vi i6, vi (wr (i7 + 1)), vi (wr (i8 + 1)), vi (wr ((wr (i8.tdiv 16)) + (yr_162 i3 V D))), vi (wr ((i8.tmod 16) + (yr_163 i3 V D)))] [] V D Q) ∧ (i6 ≠ 0 → RY d 272 0 [vr 405, vi (wr ((wr ((16 : Int) * i4)) + i5)), vi (wr ((wr ((16 : Int) * (wr ((wr (i8.tdiv 16)) + (yr_162 i3 V D))))) + (wr ((i8.tmod 16) + (yr_163 i3 V D))))), vr 0, vr 0] [] V D (yback d 184 128 [vr 405, vi i1, vi i2, vi i3, vi i4, vi i5, vi i6, vi i7, vi i8, vi (wr ((wr (i8.tdiv 16)) + (yr_162 i3 V D))), vi (wr ((i8.tmod 16) + (yr_163 i3 V D)))] [vi i7] Q)))) ∧ ((yr_164 i1 (wr ((wr (i8.tdiv 16)) + (yr_162 i3 V D))) (wr ((i8.tmod 16) + (yr_163 i3 V D))) V D) ≠ i6 → RY d 184 39 [vr 405, vi i1, vi i2, vi i3, vi i4, vi i5, vi i6, vi i7, vi (wr (i8 + 1)), vi (wr ((wr (i8.tdiv 16)) + (yr_162 i3 V D))), vi (wr ((i8.tmod 16) + (yr_163 i3 V D)))] [] V D Q)))) ∧ ((V 415 i8.toNat) = 0 → RY d 184 39 [vr 405, vi i1, vi i2, vi i3, vi i4, vi i5, vi i6, vi i7, vi (wr (i8 + 1)), v9, v10] [] V D Q))))) :
    RY d 184 39 [vr 405, vi i1, vi i2, vi i3, vi i4, vi i5, vi i6, vi i7, vi i8, v9, v10] [] V D Q := yat (c := xk_184) (hd := [1840039]) (dk := []) (dv := [1840053]) (nb := [1840044, 1840054, 1840095, 1840105]) rfl h
set_option maxRecDepth 20000 in
theorem u_184_128 {d : Nat} {i1 i2 i3 i4 i5 i6 i7 i8 i9 i10 i_0 i_1 : Int} {V : xF} {D : yD} {Q : xRes → xF → yD → Prop}
    (h : (i_1 = 0 → RY d 184 39 [vr 405, vi i1, vi i2, vi i3, vi i4, vi i5, vi i6, vi (wr (i_0 + 0)), vi (wr (i8 + 1)), vi i9, vi i10] [] V D Q) ∧ (i_1 ≠ 0 → RY d 184 39 [vr 405, vi i1, vi i2, vi i3, vi i4, vi i5, vi i6, vi (wr (i_0 + 1)), vi (wr (i8 + 1)), vi i9, vi i10] [] V D Q)) :
    RY d 184 128 [vr 405, vi i1, vi i2, vi i3, vi i4, vi i5, vi i6, vi i7, vi i8, vi i9, vi i10] [vi i_1, vi i_0] V D Q := yat (c := xk_184) (hd := [1840039]) (dk := []) (dv := []) (nb := [1840128]) rfl h
set_option maxRecDepth 20000 in
theorem u_186_0 {d : Nat} {V : xF} {D : yD} {Q : xRes → xF → yD → Prop}
    (h : RY d 267 0 [vr 76, vr 0, vr 0, vr 0, vr 0] [] V D (yback d 186 8 [vr 70, vr 0, vr 0] [vr 70] Q)) :
    RY d 186 0 [vr 70, vr 0, vr 0] [] V D Q := yat (c := xk_186) (hd := [1860015]) (dk := []) (dv := []) (nb := []) rfl h
set_option maxRecDepth 20000 in
theorem u_186_8 {d : Nat} {i_1 : Int} {V : xF} {D : yD} {Q : xRes → xF → yD → Prop}
    (h : RY d 268 0 [vr 70, vi i_1] [] V D (yback d 186 11 [vr 70, vr 0, vr 0] [] Q)) :
    RY d 186 8 [vr 70, vr 0, vr 0] [vi i_1, vr 70] V D Q := yat (c := xk_186) (hd := [1860015]) (dk := []) (dv := []) (nb := []) rfl h
set_option maxRecDepth 20000 in
theorem u_186_11 {d : Nat} {V : xF} {D : yD} {Q : xRes → xF → yD → Prop}
    (h : RY d 186 15 [vr 70, vi 0, vi 0] [] V D Q) :
    RY d 186 11 [vr 70, vr 0, vr 0] [] V D Q := yat (c := xk_186) (hd := [1860015]) (dk := []) (dv := []) (nb := []) rfl h
set_option maxRecDepth 20000 in
theorem u_186_15 {d : Nat} {i1 i2 : Int} {V : xF} {D : yD} {Q : xRes → xF → yD → Prop}
    (h : ((V 81 0) ≤ i2 → Q (.inl (some (vi i1))) V D) ∧ (i2 < (V 81 0) → (yg_211_81 i2 V D ∧ RY d 212 0 [vr 254, vr 81, vi i2, vi (yr_211_81 i2 V D), vr 253, vr 0, vr 0, vr 0] [] V D (yback d 186 50 [vr 70, vi i1, vi i2] [] Q)))) :
    RY d 186 15 [vr 70, vi i1, vi i2] [] V D Q := yat (c := xk_186) (hd := [1860015]) (dk := []) (dv := []) (nb := [1860023]) rfl h
set_option maxRecDepth 20000 in
theorem u_186_50 {d : Nat} {i1 i2 : Int} {V : xF} {D : yD} {Q : xRes → xF → yD → Prop}
    (h : RY d 273 0 [vr 76, vr 253, vr 0, vr 0] [] V D (yback d 186 61 [vr 70, vi i1, vi i2] [] Q)) :
    RY d 186 50 [vr 70, vi i1, vi i2] [] V D Q := yat (c := xk_186) (hd := [1860015]) (dk := []) (dv := []) (nb := []) rfl h
set_option maxRecDepth 20000 in
theorem u_186_61 {d : Nat} {i1 i2 i_0 : Int} {V : xF} {D : yD} {Q : xRes → xF → yD → Prop}
    (h : (i_0 = 0 → RY d 186 15 [vr 70, vi i1, vi (wr (i2 + 1))] [] V D Q) ∧ (i_0 ≠ 0 → RY d 186 15 [vr 70, vi (xor_ i1 (xshl 1 i2)), vi (wr (i2 + 1))] [] V D Q)) :
    RY d 186 61 [vr 70, vi i1, vi i2] [vi i_0] V D Q := yat (c := xk_186) (hd := [1860015]) (dk := []) (dv := []) (nb := [1860061]) rfl h
set_option maxRecDepth 20000 in
theorem u_187_0 {d : Nat} {i1 : Int} {V : xF} {D : yD} {Q : xRes → xF → yD → Prop}
    (h : RY d 187 4 [vr 405, vi i1, vi 1, vi 0] [] V D Q) :
    RY d 187 0 [vr 405, vi i1, vr 0, vr 0] [] V D Q := yat (c := xk_187) (hd := [1870004]) (dk := []) (dv := []) (nb := []) rfl h
set_option maxRecDepth 20000 in
theorem u_187_4 {d : Nat} {i1 i2 i3 : Int} {V : xF} {D : yD} {Q : xRes → xF → yD → Prop}
    (h : (i1 ≤ i3 → ((i2 = 0 ∨ i2 = 1) ∧ Q (.inl (some (vi i2))) V D)) ∧ (i3 < i1 → ((i2 = 0 → ((i2 = 0 ∨ i2 = 1) ∧ Q (.inl (some (vi i2))) V D)) ∧ (i2 ≠ 0 → (((0 : Int) ≤ i3 ∧ i3 < (400 : Int)) ∧ ((0 : Int) ≤ V 410 i3.toNat ∧ V 410 i3.toNat < (64 : Int)) ∧ (((V 412 ((V 410 i3.toNat).toNat)) ≤ 0 → (((0 : Int) ≤ wr (i3 + 1) ∧ wr (i3 + 1) < (400 : Int)) ∧ (((V 410 ((wr (i3 + 1)).toNat)) ≠ 1 → RY d 187 4 [vr 405, vi i1, vi 1, vi (wr (i3 + 2))] [] V D Q) ∧ ((V 410 ((wr (i3 + 1)).toNat)) = 1 → RY d 187 4 [vr 405, vi i1, vi 0, vi (wr (i3 + 2))] [] V D Q)))) ∧ ((0 : Int) < (V 412 ((V 410 i3.toNat).toNat)) → (((0 : Int) ≤ wr (i3 + 1) ∧ wr (i3 + 1) < (400 : Int)) ∧ (((V 410 ((wr (i3 + 1)).toNat)) ≠ 1 → RY d 187 4 [vr 405, vi i1, vi 0, vi (wr (i3 + 2))] [] V D Q) ∧ ((V 410 ((wr (i3 + 1)).toNat)) = 1 → RY d 187 4 [vr 405, vi i1, vi 1, vi (wr (i3 + 2))] [] V D Q)))))))))) :
    RY d 187 4 [vr 405, vi i1, vi i2, vi i3] [] V D Q := yat (c := xk_187) (hd := [1870004]) (dk := []) (dv := [1870022, 1870023, 1870039, 1870065]) (nb := [1870006, 1870010, 1870024, 1870041]) rfl h
set_option maxRecDepth 20000 in
theorem u_188_0 {d : Nat} {i1 i2 : Int} {V : xF} {D : yD} {Q : xRes → xF → yD → Prop}
    (h : RY d 250 0 [vr 70, vi i1, vi i2] [] V D (yback d 188 6 [vr 70, vi i1, vi i2] [] Q)) :
    RY d 188 0 [vr 70, vi i1, vi i2] [] V D Q := yat (c := xk_188) (hd := []) (dk := []) (dv := []) (nb := []) rfl h
set_option maxRecDepth 20000 in
theorem u_188_6 {d : Nat} {i1 i2 : Int} {V : xF} {D : yD} {Q : xRes → xF → yD → Prop}
    (h : RY d 274 0 [vr 382, vr 81, vi i1, vi i2, vr 0, vr 0, vr 0] [] V D (yback d 188 19 [vr 70, vi i1, vi i2] [] Q)) :
    RY d 188 6 [vr 70, vi i1, vi i2] [] V D Q := yat (c := xk_188) (hd := []) (dk := []) (dv := []) (nb := []) rfl h
set_option maxRecDepth 20000 in
theorem u_188_19 {d : Nat} {i1 i2 i_0 : Int} {V : xF} {D : yD} {Q : xRes → xF → yD → Prop}
    (h : Q (.inl (some (vi i_0))) V D) :
    RY d 188 19 [vr 70, vi i1, vi i2] [vi i_0] V D Q := yat (c := xk_188) (hd := []) (dk := []) (dv := []) (nb := []) rfl h
set_option maxRecDepth 20000 in
theorem u_189_0 {d : Nat} {i1 i2 : Int} {V : xF} {D : yD} {Q : xRes → xF → yD → Prop}
    (h : yg_133 i2 0 V D ∧ yg_133 i1 0 V D ∧ yg_133 i2 1 V D ∧ yg_133 i1 1 V D ∧ RY d 189 40 [vr 405, vi i1, vi i2, vi (wr ((wr ((yr_133 i2 0 V D).tdiv 2)) - (wr ((yr_133 i1 0 V D).tdiv 2)))), vi (wr ((wr ((yr_133 i2 1 V D).tdiv 2)) - (wr ((yr_133 i1 1 V D).tdiv 2)))), vi 0, vr 0, vr 0, vr 0, vr 0] [] V D Q) :
    RY d 189 0 [vr 405, vi i1, vi i2, vr 0, vr 0, vr 0, vr 0, vr 0, vr 0, vr 0] [] V D Q := yat (c := xk_189) (hd := [1890040, 1890091, 1890101, 1890167, 1890193]) (dk := []) (dv := []) (nb := []) rfl h
set_option maxRecDepth 20000 in
theorem u_189_40 {d : Nat} {i1 i2 i3 i4 i5 : Int} {V : xF} {D : yD} {Q : xRes → xF → yD → Prop}
    (h : ((256 : Int) ≤ i5 → (yg_133 i1 0 V D ∧ yg_133 i1 1 V D ∧ ((0 : Int) ≤ wr ((wr ((16 : Int) * (wr ((yr_133 i1 0 V D).tdiv 2)))) + (wr ((yr_133 i1 1 V D).tdiv 2))) ∧ wr ((wr ((16 : Int) * (wr ((yr_133 i1 0 V D).tdiv 2)))) + (wr ((yr_133 i1 1 V D).tdiv 2))) < (256 : Int)) ∧ (∀ V1 : xF, V1 = up2 V 416 ((wr ((wr ((16 : Int) * (wr ((yr_133 i1 0 V D).tdiv 2)))) + (wr ((yr_133 i1 1 V D).tdiv 2)))).toNat) 0 → RY d 189 91 [vr 405, vi i1, vi i2, vi i3, vi i4, vi 0, vr 0, vr 0, vr 0, vr 0] [] V1 D Q))) ∧ (i5 < 256 → (((0 : Int) ≤ i5 ∧ i5 < (256 : Int)) ∧ (∀ V2 : xF, V2 = up2 V 416 i5.toNat ((-1)) → RY d 189 40 [vr 405, vi i1, vi i2, vi i3, vi i4, vi (wr (i5 + 1)), vr 0, vr 0, vr 0, vr 0] [] V2 D Q)))) :
    RY d 189 40 [vr 405, vi i1, vi i2, vi i3, vi i4, vi i5, vr 0, vr 0, vr 0, vr 0] [] V D Q := yat (c := xk_189) (hd := [1890040, 1890091, 1890101, 1890167, 1890193]) (dk := []) (dv := [1890055, 1890087]) (nb := [1890045]) rfl h
set_option maxRecDepth 20000 in
theorem u_189_91 {d : Nat} {i1 i2 i3 i4 i5 : Int} {v6 v7 v8 v9 : xV} {V : xF} {D : yD} {Q : xRes → xF → yD → Prop}
    (h : ((6 : Int) < i5 → Q (.inl (some (vi ((-1))))) V D) ∧ (i5 ≤ 6 → RY d 189 101 [vr 405, vi i1, vi i2, vi i3, vi i4, vi i5, vi 0, v7, v8, v9] [] V D Q)) :
    RY d 189 91 [vr 405, vi i1, vi i2, vi i3, vi i4, vi i5, v6, v7, v8, v9] [] V D Q := yat (c := xk_189) (hd := [1890040, 1890091, 1890101, 1890167, 1890193]) (dk := []) (dv := []) (nb := [1890095]) rfl h
set_option maxRecDepth 20000 in
theorem u_189_101 {d : Nat} {i1 i2 i3 i4 i5 i6 : Int} {v7 v8 v9 : xV} {V : xF} {D : yD} {Q : xRes → xF → yD → Prop}
    (h : ((256 : Int) ≤ i6 → RY d 189 167 [vr 405, vi i1, vi i2, vi i3, vi i4, vi i5, vi 0, v7, v8, v9] [] V D Q) ∧ (i6 < 256 → (((0 : Int) ≤ i6 ∧ i6 < (256 : Int)) ∧ (((V 416 i6.toNat) ≠ i5 → RY d 189 101 [vr 405, vi i1, vi i2, vi i3, vi i4, vi i5, vi (wr (i6 + 1)), v7, v8, v9] [] V D Q) ∧ ((V 416 i6.toNat) = i5 → RY d 275 0 [vr 405, vi i1, vi (wr (i6.tdiv 16)), vi (i6.tmod 16), vi i2, vi (wr ((wr (i6.tdiv 16)) + i3)), vi (wr ((i6.tmod 16) + i4)), vr 0] [] V D (yback d 189 152 [vr 405, vi i1, vi i2, vi i3, vi i4, vi i5, vi i6, v7, v8, v9] [] Q)))))) :
    RY d 189 101 [vr 405, vi i1, vi i2, vi i3, vi i4, vi i5, vi i6, v7, v8, v9] [] V D Q := yat (c := xk_189) (hd := [1890040, 1890091, 1890101, 1890167, 1890193]) (dk := []) (dv := [1890115]) (nb := [1890106, 1890118]) rfl h
set_option maxRecDepth 20000 in
theorem u_189_152 {d : Nat} {i1 i2 i3 i4 i5 i6 i_0 : Int} {v7 v8 v9 : xV} {V : xF} {D : yD} {Q : xRes → xF → yD → Prop}
    (h : (i_0 ≠ 0 → RY d 189 101 [vr 405, vi i1, vi i2, vi i3, vi i4, vi i5, vi (wr (i6 + 1)), v7, v8, v9] [] V D Q) ∧ (i_0 = 0 → Q (.inl (some (vi i5))) V D)) :
    RY d 189 152 [vr 405, vi i1, vi i2, vi i3, vi i4, vi i5, vi i6, v7, v8, v9] [vi i_0] V D Q := yat (c := xk_189) (hd := [1890040, 1890091, 1890101, 1890167, 1890193]) (dk := []) (dv := []) (nb := [1890152]) rfl h
set_option maxRecDepth 20000 in
theorem u_189_167 {d : Nat} {i1 i2 i3 i4 i5 i6 : Int} {v7 v8 v9 : xV} {V : xF} {D : yD} {Q : xRes → xF → yD → Prop}
    (h : ((256 : Int) ≤ i6 → RY d 189 91 [vr 405, vi i1, vi i2, vi i3, vi i4, vi (wr (i5 + 1)), vi i6, v7, v8, v9] [] V D Q) ∧ (i6 < 256 → (((0 : Int) ≤ i6 ∧ i6 < (256 : Int)) ∧ (((V 416 i6.toNat) = i5 → RY d 189 193 [vr 405, vi i1, vi i2, vi i3, vi i4, vi i5, vi i6, vi 0, v8, v9] [] V D Q) ∧ ((V 416 i6.toNat) ≠ i5 → RY d 189 167 [vr 405, vi i1, vi i2, vi i3, vi i4, vi i5, vi (wr (i6 + 1)), v7, v8, v9] [] V D Q))))) :
    RY d 189 167 [vr 405, vi i1, vi i2, vi i3, vi i4, vi i5, vi i6, v7, v8, v9] [] V D Q := yat (c := xk_189) (hd := [1890040, 1890091, 1890101, 1890167, 1890193]) (dk := []) (dv := [1890181]) (nb := [1890172, 1890184]) rfl h
set_option maxRecDepth 20000 in
theorem u_189_193 {d : Nat} {i1 i2 i3 i4 i5 i6 i7 : Int} {v8 v9 : xV} {V : xF} {D : yD} {Q : xRes → xF → yD → Prop}
    (h : ((4 : Int) ≤ i7 → RY d 189 167 [vr 405, vi i1, vi i2, vi i3, vi i4, vi i5, vi (wr (i6 + 1)), vi i7, v8, v9] [] V D Q) ∧ (i7 < 4 → (yg_164 i1 (wr ((wr (i6.tdiv 16)) + (yr_162 i7 V D))) (wr ((i6.tmod 16) + (yr_163 i7 V D))) V D ∧ (((yr_164 i1 (wr ((wr (i6.tdiv 16)) + (yr_162 i7 V D))) (wr ((i6.tmod 16) + (yr_163 i7 V D))) V D) = 0 → RY d 189 193 [vr 405, vi i1, vi i2, vi i3, vi i4, vi i5, vi i6, vi (wr (i7 + 1)), vi (wr ((wr (i6.tdiv 16)) + (yr_162 i7 V D))), vi (wr ((i6.tmod 16) + (yr_163 i7 V D)))] [] V D Q) ∧ ((yr_164 i1 (wr ((wr (i6.tdiv 16)) + (yr_162 i7 V D))) (wr ((i6.tmod 16) + (yr_163 i7 V D))) V D) ≠ 0 → (yg_164 i2 (wr ((wr ((wr (i6.tdiv 16)) + (yr_162 i7 V D))) + i3)) (wr ((wr ((i6.tmod 16) + (yr_163 i7 V D))) + i4)) V D ∧ (((yr_164 i2 (wr ((wr ((wr (i6.tdiv 16)) + (yr_162 i7 V D))) + i3)) (wr ((wr ((i6.tmod 16) + (yr_163 i7 V D))) + i4)) V D) = 0 → RY d 189 193 [vr 405, vi i1, vi i2, vi i3, vi i4, vi i5, vi i6, vi (wr (i7 + 1)), vi (wr ((wr (i6.tdiv 16)) + (yr_162 i7 V D))), vi (wr ((i6.tmod 16) + (yr_163 i7 V D)))] [] V D Q) ∧ ((yr_164 i2 (wr ((wr ((wr (i6.tdiv 16)) + (yr_162 i7 V D))) + i3)) (wr ((wr ((i6.tmod 16) + (yr_163 i7 V D))) + i4)) V D) ≠ 0 → (((0 : Int) ≤ wr ((wr ((16 : Int) * (wr ((wr (i6.tdiv 16)) + (yr_162 i7 V D))))) + (wr ((i6.tmod 16) + (yr_163 i7 V D)))) ∧ wr ((wr ((16 : Int) * (wr ((wr (i6.tdiv 16)) + (yr_162 i7 V D))))) + (wr ((i6.tmod 16) + (yr_163 i7 V D)))) < (256 : Int)) ∧ (((V 416 ((wr ((wr ((16 : Int) * (wr ((wr (i6.tdiv 16)) + (yr_162 i7 V D))))) + (wr ((i6.tmod 16) + (yr_163 i7 V D))))).toNat)) ≠ ((-1)) → RY d 189 193 [vr 405, vi i1, vi i2, vi i3, vi i4, vi i5, vi i6, vi (wr (i7 + 1)), vi (wr ((wr (i6.tdiv 16)) + (yr_162 i7 V D))), vi (wr ((i6.tmod 16) + (yr_163 i7 V D)))] [] V D Q) ∧ ((V 416 ((wr ((wr ((16 : Int) * (wr ((wr (i6.tdiv 16)) + (yr_162 i7 V D))))) + (wr ((i6.tmod 16) + (yr_163 i7 V D))))).toNat)) = ((-1)) → (((0 : Int) ≤ wr ((wr ((16 : Int) * (wr ((wr (i6.tdiv 16)) + (yr_162 i7 V D))))) + (wr ((i6.tmod 16) + (yr_163 i7 V D)))) ∧ wr ((wr ((16 : Int) * (wr ((wr (i6.tdiv 16)) + (yr_162 i7 V D))))) + (wr ((i6.tmod 16) + (yr_163 i7 V D)))) < (256 : Int)) ∧ (∀ V1 : xF, V1 = up2 V 416 ((wr ((wr ((16 : Int) * (wr ((wr (i6.tdiv 16)) + (yr_162 i7 V D))))) + (wr ((i6.tmod 16) + (yr_163 i7 V D))))).toNat) (wr (i5 + 1)) → RY d 189 193 [vr 405, vi i1, vi i2, vi i3, vi i4, vi i5, vi i6, vi (wr (i7 + 1)), vi (wr ((wr (i6.tdiv 16)) + (yr_162 i7 V D))), vi (wr ((i6.tmod 16) + (yr_163 i7 V D)))] [] V1 D Q))))))))))))) :
    RY d 189 193 [vr 405, vi i1, vi i2, vi i3, vi i4, vi i5, vi i6, vi i7, v8, v9] [] V D Q := yat (c := xk_189) (hd := [1890040, 1890091, 1890101, 1890167, 1890193]) (dk := []) (dv := [1890266, 1890287]) (nb := [1890196, 1890234, 1890251, 1890268]) rfl h
set_option maxRecDepth 20000 in
theorem u_190_0_81 {d : Nat} {V : xF} {D : yD} {Q : xRes → xF → yD → Prop}
    (h : RY d 190 4 [vr 382, vr 81, vi 0, vi 0, vr 0] [] V D Q) :
    RY d 190 0 [vr 382, vr 81, vr 0, vr 0, vr 0] [] V D Q := yat (c := xk_190) (hd := [1900004, 1900015]) (dk := []) (dv := []) (nb := []) rfl h
set_option maxRecDepth 20000 in
theorem u_190_4_81 {d : Nat} {i2 i3 : Int} {v4 : xV} {V : xF} {D : yD} {Q : xRes → xF → yD → Prop}
    (h : ((V 81 0) ≤ i3 → Q (.inl (some (vi i2))) V D) ∧ (i3 < (V 81 0) → RY d 190 15 [vr 382, vr 81, vi i2, vi i3, vi 0] [] V D Q)) :
    RY d 190 4 [vr 382, vr 81, vi i2, vi i3, v4] [] V D Q := yat (c := xk_190) (hd := [1900004, 1900015]) (dk := []) (dv := []) (nb := [1900009]) rfl h
set_option maxRecDepth 20000 in
theorem u_190_15_81 {d : Nat} {i2 i3 i4 : Int} {V : xF} {D : yD} {Q : xRes → xF → yD → Prop}
    (h : (i3 ≤ i4 → RY d 190 4 [vr 382, vr 81, vi i2, vi (wr (i3 + 1)), vi i4] [] V D Q) ∧ (i4 < i3 → RY d 274 0 [vr 382, vr 81, vi i3, vi i4, vr 0, vr 0, vr 0] [] V D (yback d 190 29 [vr 382, vr 81, vi i2, vi i3, vi i4] [] Q))) :
    RY d 190 15 [vr 382, vr 81, vi i2, vi i3, vi i4] [] V D Q := yat (c := xk_190) (hd := [1900004, 1900015]) (dk := []) (dv := []) (nb := [1900018]) rfl h
set_option maxRecDepth 20000 in
theorem u_190_29_81 {d : Nat} {i2 i3 i4 i_0 : Int} {V : xF} {D : yD} {Q : xRes → xF → yD → Prop}
    (h : (i_0 ≠ ((-1)) → RY d 190 15 [vr 382, vr 81, vi i2, vi i3, vi (wr (i4 + 1))] [] V D Q) ∧ (i_0 = ((-1)) → RY d 190 15 [vr 382, vr 81, vi (wr (i2 + 1)), vi i3, vi (wr (i4 + 1))] [] V D Q)) :
    RY d 190 29 [vr 382, vr 81, vi i2, vi i3, vi i4] [vi i_0] V D Q := yat (c := xk_190) (hd := [1900004, 1900015]) (dk := []) (dv := []) (nb := [1900030]) rfl h
set_option maxRecDepth 20000 in
theorem u_191_0_81 {d : Nat} {i2 : Int} {V : xF} {D : yD} {Q : xRes → xF → yD → Prop}
    (h : RY d 191 8 [vr 382, vr 81, vi i2, vi ((-1)), vi ((-1)), vi 1, vr 0, vr 0] [] V D Q) :
    RY d 191 0 [vr 382, vr 81, vi i2, vr 0, vr 0, vr 0, vr 0, vr 0] [] V D Q := yat (c := xk_191) (hd := [1910008, 1910025]) (dk := []) (dv := []) (nb := []) rfl h
set_option maxRecDepth 20000 in
theorem u_191_8_81 {d : Nat} {i2 i3 i4 i5 : Int} {v6 v7 : xV} {V : xF} {D : yD} {Q : xRes → xF → yD → Prop}
    (h : ((V 81 0) ≤ 0 → ((i2 = 0 → Q (.inl (some (vi i3))) V D) ∧ (i2 ≠ 0 → Q (.inl (some (vi i4))) V D))) ∧ ((0 : Int) < (V 81 0) → (((12 : Int) ≤ i5 → ((i2 = 0 → Q (.inl (some (vi i3))) V D) ∧ (i2 ≠ 0 → Q (.inl (some (vi i4))) V D))) ∧ (i5 < 12 → RY d 191 25 [vr 382, vr 81, vi i2, vi i3, vi i4, vi i5, vi 1, v7] [] V D Q)))) :
    RY d 191 8 [vr 382, vr 81, vi i2, vi i3, vi i4, vi i5, v6, v7] [] V D Q := yat (c := xk_191) (hd := [1910008, 1910025]) (dk := []) (dv := []) (nb := [1910012, 1910019, 1910093]) rfl h
set_option maxRecDepth 20000 in
theorem u_191_25_81 {d : Nat} {i2 i3 i4 i5 i6 : Int} {v7 : xV} {V : xF} {D : yD} {Q : xRes → xF → yD → Prop}
    (h : ((12 : Int) ≤ i6 → RY d 191 8 [vr 382, vr 81, vi i2, vi i3, vi i4, vi (wr (i5 + 1)), vi i6, v7] [] V D Q) ∧ (i6 < 12 → RY d 276 0 [vr 81, vi i5, vi i6, vr 0] [] V D (yback d 191 40 [vr 382, vr 81, vi i2, vi i3, vi i4, vi i5, vi i6, v7] [] Q))) :
    RY d 191 25 [vr 382, vr 81, vi i2, vi i3, vi i4, vi i5, vi i6, v7] [] V D Q := yat (c := xk_191) (hd := [1910008, 1910025]) (dk := []) (dv := []) (nb := [1910029]) rfl h
set_option maxRecDepth 20000 in
theorem u_191_40_81 {d : Nat} {i2 i3 i4 i5 i6 i_0 : Int} {v7 : xV} {V : xF} {D : yD} {Q : xRes → xF → yD → Prop}
    (h : (i_0 = 0 → (((-1 : Int) ≤ i4 → RY d 191 25 [vr 382, vr 81, vi i2, vi i3, vi i4, vi i5, vi (wr (i6 + 1)), vi ((-1))] [] V D Q) ∧ (i4 < ((-1)) → RY d 191 25 [vr 382, vr 81, vi i2, vi (yr_265 i5 i6 V D), vi ((-1)), vi i5, vi (wr (i6 + 1)), vi ((-1))] [] V D Q))) ∧ (i_0 ≠ 0 → RY d 277 0 [vr 382, vr 81, vi (yr_265 i5 i6 V D), vr 0, vr 0, vr 0] [] V D (yback d 191 55 [vr 382, vr 81, vi i2, vi i3, vi i4, vi i5, vi i6, v7] [] Q))) :
    RY d 191 40 [vr 382, vr 81, vi i2, vi i3, vi i4, vi i5, vi i6, v7] [vi i_0] V D Q := yat (c := xk_191) (hd := [1910008, 1910025]) (dk := []) (dv := []) (nb := [1910040, 1910065]) rfl h
set_option maxRecDepth 20000 in
theorem u_191_55_81 {d : Nat} {i2 i3 i4 i5 i6 i_0 : Int} {v7 : xV} {V : xF} {D : yD} {Q : xRes → xF → yD → Prop}
    (h : (i_0 ≤ i4 → RY d 191 25 [vr 382, vr 81, vi i2, vi i3, vi i4, vi i5, vi (wr (i6 + 1)), vi i_0] [] V D Q) ∧ (i4 < i_0 → RY d 191 25 [vr 382, vr 81, vi i2, vi (yr_265 i5 i6 V D), vi i_0, vi i5, vi (wr (i6 + 1)), vi i_0] [] V D Q)) :
    RY d 191 55 [vr 382, vr 81, vi i2, vi i3, vi i4, vi i5, vi i6, v7] [vi i_0] V D Q := yat (c := xk_191) (hd := [1910008, 1910025]) (dk := []) (dv := []) (nb := [1910065]) rfl h
set_option maxRecDepth 20000 in
theorem u_192_0 {d : Nat} {i1 i2 : Int} {V : xF} {D : yD} {Q : xRes → xF → yD → Prop}
    (h : RY d 192 5 [vr 405, vi i1, vi i2, vi 0, vi 0, vr 0] [] V D Q) :
    RY d 192 0 [vr 405, vi i1, vi i2, vr 0, vr 0, vr 0] [] V D Q := yat (c := xk_192) (hd := [1920005, 1920022]) (dk := []) (dv := []) (nb := []) rfl h
set_option maxRecDepth 20000 in
theorem u_192_5 {d : Nat} {i1 i2 i3 i4 : Int} {v5 : xV} {V : xF} {D : yD} {Q : xRes → xF → yD → Prop}
    (h : ((V 406 3) ≤ i4 → Q (.inl (some (vi i3))) V D) ∧ (i4 < (V 406 3) → RY d 192 22 [vr 405, vi i1, vi i2, vi i3, vi i4, vi (wr (i4 + 1))] [] V D Q)) :
    RY d 192 5 [vr 405, vi i1, vi i2, vi i3, vi i4, v5] [] V D Q := yat (c := xk_192) (hd := [1920005, 1920022]) (dk := []) (dv := []) (nb := [1920013]) rfl h
set_option maxRecDepth 20000 in
theorem u_192_22 {d : Nat} {i1 i2 i3 i4 i5 : Int} {V : xF} {D : yD} {Q : xRes → xF → yD → Prop}
    (h : ((V 406 3) ≤ i5 → RY d 192 5 [vr 405, vi i1, vi i2, vi i3, vi (wr (i4 + 1)), vi i5] [] V D Q) ∧ (i5 < (V 406 3) → RY d 275 0 [vr 405, vi i4, vi i1, vi i2, vi i5, vi i1, vi i2, vr 0] [] V D (yback d 192 46 [vr 405, vi i1, vi i2, vi i3, vi i4, vi i5] [vi i3] Q))) :
    RY d 192 22 [vr 405, vi i1, vi i2, vi i3, vi i4, vi i5] [] V D Q := yat (c := xk_192) (hd := [1920005, 1920022]) (dk := []) (dv := []) (nb := [1920030]) rfl h
set_option maxRecDepth 20000 in
theorem u_192_46 {d : Nat} {i1 i2 i3 i4 i5 i_0 i_1 : Int} {V : xF} {D : yD} {Q : xRes → xF → yD → Prop}
    (h : (i_1 = 0 → RY d 192 22 [vr 405, vi i1, vi i2, vi (wr (i_0 + 1)), vi i4, vi (wr (i5 + 1))] [] V D Q) ∧ (i_1 ≠ 0 → RY d 192 22 [vr 405, vi i1, vi i2, vi (wr (i_0 + 0)), vi i4, vi (wr (i5 + 1))] [] V D Q)) :
    RY d 192 46 [vr 405, vi i1, vi i2, vi i3, vi i4, vi i5] [vi i_1, vi i_0] V D Q := yat (c := xk_192) (hd := [1920005, 1920022]) (dk := []) (dv := []) (nb := [1920046]) rfl h
set_option maxRecDepth 20000 in
theorem u_193_0 {d : Nat} {i1 i2 i3 : Int} {V : xF} {D : yD} {Q : xRes → xF → yD → Prop}
    (h : RY d 250 0 [vr 70, vi i1, vi i2] [] V D (yback d 193 6 [vr 70, vi i1, vi i2, vi i3] [] Q)) :
    RY d 193 0 [vr 70, vi i1, vi i2, vi i3] [] V D Q := yat (c := xk_193) (hd := []) (dk := []) (dv := []) (nb := []) rfl h
set_option maxRecDepth 20000 in
theorem u_193_6 {d : Nat} {i1 i2 i3 : Int} {V : xF} {D : yD} {Q : xRes → xF → yD → Prop}
    (h : ((0 : Int) ≤ i1 ∧ i1 < (5 : Int)) ∧ ((0 : Int) ≤ i2 ∧ i2 < (5 : Int)) ∧ (((V 82 i1.toNat) ≠ (V 82 i2.toNat) → Q (.inl (some (vi ((-1))))) V D) ∧ ((V 82 i1.toNat) = (V 82 i2.toNat) → (((0 : Int) ≤ i1 ∧ i1 < (5 : Int)) ∧ ((0 : Int) ≤ i2 ∧ i2 < (5 : Int)) ∧ (((V 83 i1.toNat) = (V 83 i2.toNat) → RY d 224 0 [vr 92, vr 81] [] V D (yback d 193 61 [vr 70, vi i1, vi i2, vi i3] [] Q)) ∧ ((V 83 i1.toNat) ≠ (V 83 i2.toNat) → Q (.inl (some (vi ((-1))))) V D)))))) :
    RY d 193 6 [vr 70, vi i1, vi i2, vi i3] [] V D Q := yat (c := xk_193) (hd := []) (dk := []) (dv := [1930014, 1930023, 1930035, 1930044]) (nb := [1930024, 1930045]) rfl h
set_option maxRecDepth 20000 in
theorem u_193_61 {d : Nat} {i1 i2 i3 : Int} {V : xF} {D : yD} {Q : xRes → xF → yD → Prop}
    (h : RY d 278 0 [vr 382, vr 92, vi i1, vi i2, vi i3, vr 0, vr 0] [] V D (yback d 193 75 [vr 70, vi i1, vi i2, vi i3] [] Q)) :
    RY d 193 61 [vr 70, vi i1, vi i2, vi i3] [] V D Q := yat (c := xk_193) (hd := []) (dk := []) (dv := []) (nb := []) rfl h
set_option maxRecDepth 20000 in
theorem u_193_75 {d : Nat} {i1 i2 i3 i_0 : Int} {V : xF} {D : yD} {Q : xRes → xF → yD → Prop}
    (h : Q (.inl (some (vi i_0))) V D) :
    RY d 193 75 [vr 70, vi i1, vi i2, vi i3] [vi i_0] V D Q := yat (c := xk_193) (hd := []) (dk := []) (dv := []) (nb := []) rfl h
set_option maxRecDepth 20000 in
theorem u_194_0 {d : Nat} {V : xF} {D : yD} {Q : xRes → xF → yD → Prop}
    (h : RY d 194 2 [vr 405, vi 0] [] V D Q) :
    RY d 194 0 [vr 405, vr 0] [] V D Q := yat (c := xk_194) (hd := [1940002]) (dk := []) (dv := []) (nb := []) rfl h
set_option maxRecDepth 20000 in
theorem u_194_2 {d : Nat} {i1 : Int} {V : xF} {D : yD} {Q : xRes → xF → yD → Prop}
    (h : ((64 : Int) ≤ i1 → Q (.inl none) V D) ∧ (i1 < 64 → (((0 : Int) ≤ i1 ∧ i1 < (64 : Int)) ∧ ((0 : Int) ≤ i1 ∧ i1 < (64 : Int)) ∧ (∀ V1 : xF, V1 = up2 V 414 i1.toNat (V 412 i1.toNat) → RY d 194 2 [vr 405, vi (wr (i1 + 1))] [] V1 D Q)))) :
    RY d 194 2 [vr 405, vi i1] [] V D Q := yat (c := xk_194) (hd := [1940002]) (dk := []) (dv := [1940018, 1940019]) (nb := [1940005]) rfl h
set_option maxRecDepth 20000 in
theorem u_195_0 {d : Nat} {i1 i2 i3 : Int} {V : xF} {D : yD} {Q : xRes → xF → yD → Prop}
    (h : RY d 195 12 [vr 405, vi i1, vi i2, vi i3, vi 0, vi i2, vi i3, vi 3] [] V D Q) :
    RY d 195 0 [vr 405, vi i1, vi i2, vi i3, vr 0, vr 0, vr 0, vr 0] [] V D Q := yat (c := xk_195) (hd := [1950012]) (dk := []) (dv := []) (nb := []) rfl h
set_option maxRecDepth 20000 in
theorem u_195_12 {d : Nat} {i1 i2 i3 i4 i5 i6 i7 : Int} {V : xF} {D : yD} {Q : xRes → xF → yD → Prop}
    (h : (i7 < 0 → Q (.inl (some (vi i4))) V D) ∧ ((0 : Int) ≤ i7 → (((0 : Int) ≤ wr ((wr ((wr ((16 : Int) + (wr ((7 : Int) * i1)))) + 2)) + i7) ∧ wr ((wr ((wr ((16 : Int) + (wr ((7 : Int) * i1)))) + 2)) + i7) < (731 : Int)) ∧ (∀ V1 : xF, V1 = up2 V 406 ((wr ((wr ((wr ((16 : Int) + (wr ((7 : Int) * i1)))) + 2)) + i7)).toNat) (i5.tmod 5) → (((i5.tmod 5) ≠ (i6.tmod 5) → RY d 195 12 [vr 405, vi i1, vi i2, vi i3, vi (wr (i4 + 1)), vi (wr (i5.tdiv 5)), vi (wr (i6.tdiv 5)), vi (wr (i7 + (-1)))] [] V1 D Q) ∧ ((i5.tmod 5) = (i6.tmod 5) → RY d 195 12 [vr 405, vi i1, vi i2, vi i3, vi (wr (i4 + 0)), vi (wr (i5.tdiv 5)), vi (wr (i6.tdiv 5)), vi (wr (i7 + (-1)))] [] V1 D Q)))))) :
    RY d 195 12 [vr 405, vi i1, vi i2, vi i3, vi i4, vi i5, vi i6, vi i7] [] V D Q := yat (c := xk_195) (hd := [1950012]) (dk := []) (dv := [1950037]) (nb := [1950014, 1950048]) rfl h
set_option maxRecDepth 20000 in
theorem u_196_0 {d : Nat} {V : xF} {D : yD} {Q : xRes → xF → yD → Prop}
    (h : RY d 196 4 [vr 405, vi 1, vi 0] [] V D Q) :
    RY d 196 0 [vr 405, vr 0, vr 0] [] V D Q := yat (c := xk_196) (hd := [1960004]) (dk := []) (dv := []) (nb := []) rfl h
set_option maxRecDepth 20000 in
theorem u_196_4 {d : Nat} {i1 i2 : Int} {V : xF} {D : yD} {Q : xRes → xF → yD → Prop}
    (h : ((64 : Int) ≤ i2 → ((i1 = 0 ∨ i1 = 1) ∧ Q (.inl (some (vi i1))) V D)) ∧ (i2 < 64 → ((i1 = 0 → RY d 196 4 [vr 405, vi 0, vi (wr (i2 + 1))] [] V D Q) ∧ (i1 ≠ 0 → (((0 : Int) ≤ i2 ∧ i2 < (64 : Int)) ∧ ((0 : Int) ≤ i2 ∧ i2 < (64 : Int)) ∧ (((V 414 i2.toNat) ≠ (V 412 i2.toNat) → RY d 196 4 [vr 405, vi 0, vi (wr (i2 + 1))] [] V D Q) ∧ ((V 414 i2.toNat) = (V 412 i2.toNat) → RY d 196 4 [vr 405, vi 1, vi (wr (i2 + 1))] [] V D Q))))))) :
    RY d 196 4 [vr 405, vi i1, vi i2] [] V D Q := yat (c := xk_196) (hd := [1960004]) (dk := []) (dv := [1960019, 1960025, 1960042]) (nb := [1960007, 1960011, 1960026]) rfl h
set_option maxRecDepth 20000 in
theorem u_197_0 {d : Nat} {i1 i2 : Int} {V : xF} {D : yD} {Q : xRes → xF → yD → Prop}
    (h : RY d 235 0 [vr 70, vi i1] [] V D (yback d 197 5 [vr 70, vi i1, vi i2, vr 0, vr 0] [] Q)) :
    RY d 197 0 [vr 70, vi i1, vi i2, vr 0, vr 0] [] V D Q := yat (c := xk_197) (hd := [1970017]) (dk := []) (dv := []) (nb := []) rfl h
set_option maxRecDepth 20000 in
theorem u_197_5 {d : Nat} {i1 i2 : Int} {V : xF} {D : yD} {Q : xRes → xF → yD → Prop}
    (h : RY d 235 0 [vr 70, vi i2] [] V D (yback d 197 10 [vr 70, vi i1, vi i2, vr 0, vr 0] [] Q)) :
    RY d 197 5 [vr 70, vi i1, vi i2, vr 0, vr 0] [] V D Q := yat (c := xk_197) (hd := [1970017]) (dk := []) (dv := []) (nb := []) rfl h
set_option maxRecDepth 20000 in
theorem u_197_10 {d : Nat} {i1 i2 : Int} {V : xF} {D : yD} {Q : xRes → xF → yD → Prop}
    (h : RY d 197 17 [vr 70, vi i1, vi i2, vi (xshl 1 i1), vi 0] [] V D Q) :
    RY d 197 10 [vr 70, vi i1, vi i2, vr 0, vr 0] [] V D Q := yat (c := xk_197) (hd := [1970017]) (dk := []) (dv := []) (nb := []) rfl h
set_option maxRecDepth 20000 in
theorem u_197_17 {d : Nat} {i1 i2 i3 i4 : Int} {V : xF} {D : yD} {Q : xRes → xF → yD → Prop}
    (h : ((5 : Int) ≤ i4 → Q (.inl (some (vi ((-1))))) V D) ∧ (i4 < 5 → (((xand (xshr i3 i2) 1) ≠ 1 → RY d 279 0 [vr 81, vi i3, vr 0, vr 0] [] V D (yback d 197 43 [vr 70, vi i1, vi i2, vi i3, vi i4] [] Q)) ∧ ((xand (xshr i3 i2) 1) = 1 → Q (.inl (some (vi i4))) V D)))) :
    RY d 197 17 [vr 70, vi i1, vi i2, vi i3, vi i4] [] V D Q := yat (c := xk_197) (hd := [1970017]) (dk := []) (dv := []) (nb := [1970020, 1970029]) rfl h
set_option maxRecDepth 20000 in
theorem u_197_43 {d : Nat} {i1 i2 i3 i4 i_0 : Int} {V : xF} {D : yD} {Q : xRes → xF → yD → Prop}
    (h : RY d 197 17 [vr 70, vi i1, vi i2, vi i_0, vi (wr (i4 + 1))] [] V D Q) :
    RY d 197 43 [vr 70, vi i1, vi i2, vi i3, vi i4] [vi i_0] V D Q := yat (c := xk_197) (hd := [1970017]) (dk := []) (dv := []) (nb := []) rfl h
set_option maxRecDepth 20000 in
theorem u_199_0 {d : Nat} {i1 : Int} {V : xF} {D : yD} {Q : xRes → xF → yD → Prop}
    (h : RY d 235 0 [vr 70, vi i1] [] V D (yback d 199 5 [vr 70, vi i1] [] Q)) :
    RY d 199 0 [vr 70, vi i1] [] V D Q := yat (c := xk_199) (hd := []) (dk := []) (dv := []) (nb := []) rfl h
set_option maxRecDepth 20000 in
theorem u_199_5 {d : Nat} {i1 : Int} {V : xF} {D : yD} {Q : xRes → xF → yD → Prop}
    (h : RY d 201 0 [vr 81, vi i1, vi ((-1)), vr 0, vr 0, vr 0] [] V D (yback d 199 14 [vr 70, vi i1] [] Q)) :
    RY d 199 5 [vr 70, vi i1] [] V D Q := yat (c := xk_199) (hd := []) (dk := []) (dv := []) (nb := []) rfl h
set_option maxRecDepth 20000 in
theorem u_199_14 {d : Nat} {i1 i_0 : Int} {V : xF} {D : yD} {Q : xRes → xF → yD → Prop}
    (h : Q (.inl (some (vi i_0))) V D) :
    RY d 199 14 [vr 70, vi i1] [vi i_0] V D Q := yat (c := xk_199) (hd := []) (dk := []) (dv := []) (nb := []) rfl h
set_option maxRecDepth 20000 in
theorem u_200_0 {d : Nat} {i1 i2 : Int} {V : xF} {D : yD} {Q : xRes → xF → yD → Prop}
    (h : RY d 200 7 [vr 405, vi i1, vi i2, vi (xshl 1 i1), vi 0, vr 0, vr 0] [] V D Q) :
    RY d 200 0 [vr 405, vi i1, vi i2, vr 0, vr 0, vr 0, vr 0] [] V D Q := yat (c := xk_200) (hd := [2000007, 2000016, 2000030]) (dk := []) (dv := []) (nb := []) rfl h
set_option maxRecDepth 20000 in
theorem u_200_7 {d : Nat} {i1 i2 i3 i4 : Int} {v5 v6 : xV} {V : xF} {D : yD} {Q : xRes → xF → yD → Prop}
    (h : ((5 : Int) ≤ i4 → Q (.inl (some (vi i3))) V D) ∧ (i4 < 5 → RY d 200 16 [vr 405, vi i1, vi i2, vi i3, vi i4, vi 0, v6] [] V D Q)) :
    RY d 200 7 [vr 405, vi i1, vi i2, vi i3, vi i4, v5, v6] [] V D Q := yat (c := xk_200) (hd := [2000007, 2000016, 2000030]) (dk := []) (dv := []) (nb := [2000010]) rfl h
set_option maxRecDepth 20000 in
theorem u_200_16 {d : Nat} {i1 i2 i3 i4 i5 : Int} {v6 : xV} {V : xF} {D : yD} {Q : xRes → xF → yD → Prop}
    (h : ((V 406 3) ≤ i5 → RY d 200 7 [vr 405, vi i1, vi i2, vi i3, vi (wr (i4 + 1)), vi i5, v6] [] V D Q) ∧ (i5 < (V 406 3) → RY d 200 30 [vr 405, vi i1, vi i2, vi i3, vi i4, vi i5, vi 0] [] V D Q)) :
    RY d 200 16 [vr 405, vi i1, vi i2, vi i3, vi i4, vi i5, v6] [] V D Q := yat (c := xk_200) (hd := [2000007, 2000016, 2000030]) (dk := []) (dv := []) (nb := [2000024]) rfl h
set_option maxRecDepth 20000 in
theorem u_200_30 {d : Nat} {i1 i2 i3 i4 i5 i6 : Int} {V : xF} {D : yD} {Q : xRes → xF → yD → Prop}
    (h : ((V 406 3) ≤ i6 → RY d 200 16 [vr 405, vi i1, vi i2, vi i3, vi i4, vi (wr (i5 + 1)), vi i6] [] V D Q) ∧ (i6 < (V 406 3) → (((yr_198 i3 i5 V D) = 0 → RY d 200 30 [vr 405, vi i1, vi i2, vi i3, vi i4, vi i5, vi (wr (i6 + 1))] [] V D Q) ∧ ((yr_198 i3 i5 V D) ≠ 0 → ((i6 = i2 → RY d 200 30 [vr 405, vi i1, vi i2, vi i3, vi i4, vi i5, vi (wr (i6 + 1))] [] V D Q) ∧ (i6 ≠ i2 → (yg_152 i5 i6 V D ∧ (((yr_152 i5 i6 V D) = 0 → RY d 200 30 [vr 405, vi i1, vi i2, vi i3, vi i4, vi i5, vi (wr (i6 + 1))] [] V D Q) ∧ ((yr_152 i5 i6 V D) ≠ 0 → RY d 200 30 [vr 405, vi i1, vi i2, vi (xor_ i3 (xshl 1 i6)), vi i4, vi i5, vi (wr (i6 + 1))] [] V D Q))))))))) :
    RY d 200 30 [vr 405, vi i1, vi i2, vi i3, vi i4, vi i5, vi i6] [] V D Q := yat (c := xk_200) (hd := [2000007, 2000016, 2000030]) (dk := []) (dv := []) (nb := [2000038, 2000047, 2000053, 2000064]) rfl h
set_option maxRecDepth 20000 in
theorem u_201_0_81 {d : Nat} {i1 i2 : Int} {V : xF} {D : yD} {Q : xRes → xF → yD → Prop}
    (h : (i2 ≠ ((-1)) → RY d 201 25 [vr 81, vi i1, vi i2, vi (xshl 1 i2), vi (xand (xshl 1 i1) (xxor (xshl 1 i2) ((-1)))), vi 0] [] V D Q) ∧ (i2 = ((-1)) → RY d 201 25 [vr 81, vi i1, vi i2, vi 0, vi (xand (xshl 1 i1) (xxor 0 ((-1)))), vi 0] [] V D Q)) :
    RY d 201 0 [vr 81, vi i1, vi i2, vr 0, vr 0, vr 0] [] V D Q := yat (c := xk_201) (hd := [2010025]) (dk := []) (dv := []) (nb := [2010002]) rfl h
set_option maxRecDepth 20000 in
theorem u_201_25_81 {d : Nat} {i1 i2 i3 i4 i5 : Int} {V : xF} {D : yD} {Q : xRes → xF → yD → Prop}
    (h : ((V 81 0) ≤ i5 → Q (.inl (some (vi i4))) V D) ∧ (i5 < (V 81 0) → RY d 279 0 [vr 81, vi i4, vr 0, vr 0] [] V D (yback d 201 40 [vr 81, vi i1, vi i2, vi i3, vi i4, vi i5] [] Q))) :
    RY d 201 25 [vr 81, vi i1, vi i2, vi i3, vi i4, vi i5] [] V D Q := yat (c := xk_201) (hd := [2010025]) (dk := []) (dv := []) (nb := [2010031]) rfl h
set_option maxRecDepth 20000 in
theorem u_201_40_81 {d : Nat} {i1 i2 i3 i4 i5 i_0 : Int} {V : xF} {D : yD} {Q : xRes → xF → yD → Prop}
    (h : RY d 201 25 [vr 81, vi i1, vi i2, vi i3, vi (xand i_0 (xxor i3 ((-1)))), vi (wr (i5 + 1))] [] V D Q) :
    RY d 201 40 [vr 81, vi i1, vi i2, vi i3, vi i4, vi i5] [vi i_0] V D Q := yat (c := xk_201) (hd := [2010025]) (dk := []) (dv := []) (nb := []) rfl h
set_option maxRecDepth 20000 in
theorem u_202_0 {d : Nat} {i1 : Int} {V : xF} {D : yD} {Q : xRes → xF → yD → Prop}
    (h : (i1 = ((-1)) → RY d 204 0 [vr 390, vr 81, vr 0, vr 0] [] V D (yback d 202 21 [vr 70, vi i1] [] Q)) ∧ (i1 ≠ ((-1)) → RY d 242 0 [vr 70, vi i1] [] V D (yback d 202 10 [vr 70, vi i1] [] Q))) :
    RY d 202 0 [vr 70, vi i1] [] V D Q := yat (c := xk_202) (hd := []) (dk := []) (dv := []) (nb := [2020002]) rfl h
set_option maxRecDepth 20000 in
theorem u_202_10 {d : Nat} {i1 : Int} {V : xF} {D : yD} {Q : xRes → xF → yD → Prop}
    (h : RY d 204 0 [vr 390, vr 81, vr 0, vr 0] [] V D (yback d 202 21 [vr 70, vi i1] [] Q)) :
    RY d 202 10 [vr 70, vi i1] [] V D Q := yat (c := xk_202) (hd := []) (dk := []) (dv := []) (nb := []) rfl h
set_option maxRecDepth 20000 in
theorem u_202_21 {d : Nat} {i1 : Int} {V : xF} {D : yD} {Q : xRes → xF → yD → Prop}
    (h : RY d 280 0 [vr 390, vr 81, vi i1, vr 0, vr 0, vr 0, vr 0] [] V D (yback d 202 33 [vr 70, vi i1] [] Q)) :
    RY d 202 21 [vr 70, vi i1] [] V D Q := yat (c := xk_202) (hd := []) (dk := []) (dv := []) (nb := []) rfl h
set_option maxRecDepth 20000 in
theorem u_202_33 {d : Nat} {i1 i_0 : Int} {V : xF} {D : yD} {Q : xRes → xF → yD → Prop}
    (h : Q (.inl (some (vi i_0))) V D) :
    RY d 202 33 [vr 70, vi i1] [vi i_0] V D Q := yat (c := xk_202) (hd := []) (dk := []) (dv := []) (nb := []) rfl h
set_option maxRecDepth 20000 in
theorem u_203_0 {d : Nat} {V : xF} {D : yD} {Q : xRes → xF → yD → Prop}
    (h : RY d 203 2 [vr 405, vi 0, vr 0, vr 0, vr 0, vr 0] [] V D Q) :
    RY d 203 0 [vr 405, vr 0, vr 0, vr 0, vr 0, vr 0] [] V D Q := yat (c := xk_203) (hd := [2030002, 2030040, 2030048, 2030092, 2030116]) (dk := []) (dv := []) (nb := []) rfl h
set_option maxRecDepth 20000 in
theorem u_203_2 {d : Nat} {i1 : Int} {V : xF} {D : yD} {Q : xRes → xF → yD → Prop}
    (h : ((32 : Int) ≤ i1 → RY d 203 40 [vr 405, vi (wr ((V 406 4) - 1)), vr 0, vr 0, vr 0, vr 0] [] V D Q) ∧ (i1 < 32 → (((0 : Int) ≤ wr ((wr ((32 : Int) * (V 406 4))) + i1) ∧ wr ((wr ((32 : Int) * (V 406 4))) + i1) < (192 : Int)) ∧ (∀ V1 : xF, V1 = up2 V 418 ((wr ((wr ((32 : Int) * (V 406 4))) + i1)).toNat) 0 → RY d 203 2 [vr 405, vi (wr (i1 + 1)), vr 0, vr 0, vr 0, vr 0] [] V1 D Q)))) :
    RY d 203 2 [vr 405, vi i1, vr 0, vr 0, vr 0, vr 0] [] V D Q := yat (c := xk_203) (hd := [2030002, 2030040, 2030048, 2030092, 2030116]) (dk := []) (dv := [2030024]) (nb := [2030005]) rfl h
set_option maxRecDepth 20000 in
theorem u_203_40 {d : Nat} {i1 : Int} {v2 v3 v4 v5 : xV} {V : xF} {D : yD} {Q : xRes → xF → yD → Prop}
    (h : (i1 < 0 → Q (.inl none) V D) ∧ ((0 : Int) ≤ i1 → RY d 203 48 [vr 405, vi i1, vi 0, vi 0, v4, v5] [] V D Q)) :
    RY d 203 40 [vr 405, vi i1, v2, v3, v4, v5] [] V D Q := yat (c := xk_203) (hd := [2030002, 2030040, 2030048, 2030092, 2030116]) (dk := []) (dv := []) (nb := [2030041]) rfl h
set_option maxRecDepth 20000 in
theorem u_203_48 {d : Nat} {i1 i2 i3 : Int} {v4 v5 : xV} {V : xF} {D : yD} {Q : xRes → xF → yD → Prop}
    (h : ((V 406 3) ≤ i3 → (((0 : Int) ≤ i1 ∧ i1 < (5 : Int)) ∧ (∀ V1 : xF, V1 = up2 V 419 i1.toNat i2 → RY d 203 92 [vr 405, vi i1, vi i2, vi 0, v4, v5] [] V1 D Q))) ∧ (i3 < (V 406 3) → RY d 149 0 [vr 405, vi i1, vi i3] [] V D (yback d 203 65 [vr 405, vi i1, vi i2, vi i3, v4, v5] [vi i2] Q))) :
    RY d 203 48 [vr 405, vi i1, vi i2, vi i3, v4, v5] [] V D Q := yat (c := xk_203) (hd := [2030002, 2030040, 2030048, 2030092, 2030116]) (dk := []) (dv := [2030089]) (nb := [2030055]) rfl h
set_option maxRecDepth 20000 in
theorem u_203_65 {d : Nat} {i1 i2 i3 i_0 i_1 : Int} {v4 v5 : xV} {V : xF} {D : yD} {Q : xRes → xF → yD → Prop}
    (h : (i_1 = 0 → RY d 203 48 [vr 405, vi i1, vi (xor_ i_0 (xshl 1 i3)), vi (wr (i3 + 1)), v4, v5] [] V D Q) ∧ (i_1 ≠ 0 → RY d 203 48 [vr 405, vi i1, vi (xor_ i_0 0), vi (wr (i3 + 1)), v4, v5] [] V D Q)) :
    RY d 203 65 [vr 405, vi i1, vi i2, vi i3, v4, v5] [vi i_1, vi i_0] V D Q := yat (c := xk_203) (hd := [2030002, 2030040, 2030048, 2030092, 2030116]) (dk := []) (dv := []) (nb := [2030065]) rfl h
set_option maxRecDepth 20000 in
theorem u_203_92 {d : Nat} {i1 i2 i3 : Int} {v4 v5 : xV} {V : xF} {D : yD} {Q : xRes → xF → yD → Prop}
    (h : ((32 : Int) ≤ i3 → RY d 203 40 [vr 405, vi (wr (i1 + (-1))), vi i2, vi i3, v4, v5] [] V D Q) ∧ (i3 < 32 → (((0 : Int) ≤ wr ((wr ((32 : Int) * (wr (i1 + 1)))) + i3) ∧ wr ((wr ((32 : Int) * (wr (i1 + 1)))) + i3) < (192 : Int)) ∧ RY d 203 116 [vr 405, vi i1, vi i2, vi i3, vi (V 418 ((wr ((wr ((32 : Int) * (wr (i1 + 1)))) + i3)).toNat)), vi 0] [] V D Q))) :
    RY d 203 92 [vr 405, vi i1, vi i2, vi i3, v4, v5] [] V D Q := yat (c := xk_203) (hd := [2030002, 2030040, 2030048, 2030092, 2030116]) (dk := []) (dv := [2030110]) (nb := [2030095]) rfl h
set_option maxRecDepth 20000 in
theorem u_203_116 {d : Nat} {i1 i2 i3 i4 i5 : Int} {V : xF} {D : yD} {Q : xRes → xF → yD → Prop}
    (h : ((V 406 3) ≤ i5 → (((0 : Int) ≤ wr ((wr ((32 : Int) * i1)) + i3) ∧ wr ((wr ((32 : Int) * i1)) + i3) < (192 : Int)) ∧ (∀ V1 : xF, V1 = up2 V 418 ((wr ((wr ((32 : Int) * i1)) + i3)).toNat) i4 → RY d 203 92 [vr 405, vi i1, vi i2, vi (wr (i3 + 1)), vi i4, vi i5] [] V1 D Q))) ∧ (i5 < (V 406 3) → (((yr_198 (xand i2 (xxor i3 ((-1)))) i5 V D) = 0 → RY d 203 116 [vr 405, vi i1, vi i2, vi i3, vi i4, vi (wr (i5 + 1))] [] V D Q) ∧ ((yr_198 (xand i2 (xxor i3 ((-1)))) i5 V D) ≠ 0 → (yg_133 i5 6 V D ∧ ((0 : Int) ≤ wr ((wr ((32 : Int) * (wr (i1 + 1)))) + (xor_ i3 (xshl 1 i5))) ∧ wr ((wr ((32 : Int) * (wr (i1 + 1)))) + (xor_ i3 (xshl 1 i5))) < (192 : Int)) ∧ RY d 203 116 [vr 405, vi i1, vi i2, vi i3, vi (yr_185 i4 (wr ((yr_133 i5 6 V D) + (V 418 ((wr ((wr ((32 : Int) * (wr (i1 + 1)))) + (xor_ i3 (xshl 1 i5)))).toNat)))) V D), vi (wr (i5 + 1))] [] V D Q))))) :
    RY d 203 116 [vr 405, vi i1, vi i2, vi i3, vi i4, vi i5] [] V D Q := yat (c := xk_203) (hd := [2030002, 2030040, 2030048, 2030092, 2030116]) (dk := []) (dv := [2030167, 2030192]) (nb := [2030124, 2030137]) rfl h
set_option maxRecDepth 20000 in
theorem u_204_0_81 {d : Nat} {V : xF} {D : yD} {Q : xRes → xF → yD → Prop}
    (h : RY d 204 2 [vr 390, vr 81, vi 0, vr 0] [] V D Q) :
    RY d 204 0 [vr 390, vr 81, vr 0, vr 0] [] V D Q := yat (c := xk_204) (hd := [2040002]) (dk := []) (dv := []) (nb := []) rfl h
set_option maxRecDepth 20000 in
theorem u_204_2_81 {d : Nat} {i2 : Int} {v3 : xV} {V : xF} {D : yD} {Q : xRes → xF → yD → Prop}
    (h : ((V 81 0) ≤ i2 → Q (.inl none) V D) ∧ (i2 < (V 81 0) → (yg_211_81 i2 V D ∧ RY d 212 0 [vr 254, vr 81, vi i2, vi (yr_211_81 i2 V D), vr 391, vr 0, vr 0, vr 0] [] V D (yback d 204 28 [vr 390, vr 81, vi i2, v3] [] Q)))) :
    RY d 204 2 [vr 390, vr 81, vi i2, v3] [] V D Q := yat (c := xk_204) (hd := [2040002]) (dk := []) (dv := []) (nb := [2040007]) rfl h
set_option maxRecDepth 20000 in
theorem u_204_28_81 {d : Nat} {i2 : Int} {v3 : xV} {V : xF} {D : yD} {Q : xRes → xF → yD → Prop}
    (h : RY d 213 0 [vr 391, vr 0, vr 0] [] V D (yback d 204 40 [vr 390, vr 81, vi i2, v3] [vi i2, vr 392] Q)) :
    RY d 204 28 [vr 390, vr 81, vi i2, v3] [] V D Q := yat (c := xk_204) (hd := [2040002]) (dk := []) (dv := []) (nb := []) rfl h
set_option maxRecDepth 20000 in
theorem u_204_40_81 {d : Nat} {i2 i_1 i_2 : Int} {v3 : xV} {V : xF} {D : yD} {Q : xRes → xF → yD → Prop}
    (h : ((0 : Int) ≤ i_1 ∧ i_1 < (5 : Int)) ∧ (∀ V1 : xF, V1 = up2 V 392 i_1.toNat i_2 → RY d 263 0 [vr 391, vr 0, vr 0] [] V1 D (yback d 204 48 [vr 390, vr 81, vi i2, v3] [] Q))) :
    RY d 204 40 [vr 390, vr 81, vi i2, v3] [vi i_2, vi i_1, vr 392] V D Q := yat (c := xk_204) (hd := [2040002]) (dk := []) (dv := [2040040]) (nb := []) rfl h
set_option maxRecDepth 20000 in
theorem u_204_48_81 {d : Nat} {i2 i_0 : Int} {v3 : xV} {V : xF} {D : yD} {Q : xRes → xF → yD → Prop}
    (h : (i_0 ≠ ((-1)) → (((0 : Int) ≤ i_0 ∧ i_0 < (48 : Int)) ∧ ((0 : Int) ≤ i2 ∧ i2 < (5 : Int)) ∧ (∀ V1 : xF, V1 = up2 V 393 i2.toNat (V 391 i_0.toNat) → RY d 204 2 [vr 390, vr 81, vi (wr (i2 + 1)), vi i_0] [] V1 D Q))) ∧ (i_0 = ((-1)) → (((0 : Int) ≤ i2 ∧ i2 < (5 : Int)) ∧ (∀ V2 : xF, V2 = up2 V 393 i2.toNat 0 → RY d 204 2 [vr 390, vr 81, vi (wr (i2 + 1)), vi i_0] [] V2 D Q)))) :
    RY d 204 48 [vr 390, vr 81, vi i2, v3] [vi i_0] V D Q := yat (c := xk_204) (hd := [2040002]) (dk := []) (dv := [2040068, 2040069]) (nb := [2040056]) rfl h
set_option maxRecDepth 20000 in
theorem u_204_0_92 {d : Nat} {V : xF} {D : yD} {Q : xRes → xF → yD → Prop}
    (h : RY d 204 2 [vr 390, vr 92, vi 0, vr 0] [] V D Q) :
    RY d 204 0 [vr 390, vr 92, vr 0, vr 0] [] V D Q := yat (c := xk_204) (hd := [2040002]) (dk := []) (dv := []) (nb := []) rfl h
set_option maxRecDepth 20000 in
theorem u_204_2_92 {d : Nat} {i2 : Int} {v3 : xV} {V : xF} {D : yD} {Q : xRes → xF → yD → Prop}
    (h : ((V 92 0) ≤ i2 → Q (.inl none) V D) ∧ (i2 < (V 92 0) → (yg_211_92 i2 V D ∧ RY d 212 0 [vr 254, vr 92, vi i2, vi (yr_211_92 i2 V D), vr 391, vr 0, vr 0, vr 0] [] V D (yback d 204 28 [vr 390, vr 92, vi i2, v3] [] Q)))) :
    RY d 204 2 [vr 390, vr 92, vi i2, v3] [] V D Q := yat (c := xk_204) (hd := [2040002]) (dk := []) (dv := []) (nb := [2040007]) rfl h
set_option maxRecDepth 20000 in
theorem u_204_28_92 {d : Nat} {i2 : Int} {v3 : xV} {V : xF} {D : yD} {Q : xRes → xF → yD → Prop}
    (h : RY d 213 0 [vr 391, vr 0, vr 0] [] V D (yback d 204 40 [vr 390, vr 92, vi i2, v3] [vi i2, vr 392] Q)) :
    RY d 204 28 [vr 390, vr 92, vi i2, v3] [] V D Q := yat (c := xk_204) (hd := [2040002]) (dk := []) (dv := []) (nb := []) rfl h
set_option maxRecDepth 20000 in
theorem u_204_40_92 {d : Nat} {i2 i_1 i_2 : Int} {v3 : xV} {V : xF} {D : yD} {Q : xRes → xF → yD → Prop}
    (h : ((0 : Int) ≤ i_1 ∧ i_1 < (5 : Int)) ∧ (∀ V1 : xF, V1 = up2 V 392 i_1.toNat i_2 → RY d 263 0 [vr 391, vr 0, vr 0] [] V1 D (yback d 204 48 [vr 390, vr 92, vi i2, v3] [] Q))) :
    RY d 204 40 [vr 390, vr 92, vi i2, v3] [vi i_2, vi i_1, vr 392] V D Q := yat (c := xk_204) (hd := [2040002]) (dk := []) (dv := [2040040]) (nb := []) rfl h
set_option maxRecDepth 20000 in
theorem u_204_48_92 {d : Nat} {i2 i_0 : Int} {v3 : xV} {V : xF} {D : yD} {Q : xRes → xF → yD → Prop}
    (h : (i_0 ≠ ((-1)) → (((0 : Int) ≤ i_0 ∧ i_0 < (48 : Int)) ∧ ((0 : Int) ≤ i2 ∧ i2 < (5 : Int)) ∧ (∀ V1 : xF, V1 = up2 V 393 i2.toNat (V 391 i_0.toNat) → RY d 204 2 [vr 390, vr 92, vi (wr (i2 + 1)), vi i_0] [] V1 D Q))) ∧ (i_0 = ((-1)) → (((0 : Int) ≤ i2 ∧ i2 < (5 : Int)) ∧ (∀ V2 : xF, V2 = up2 V 393 i2.toNat 0 → RY d 204 2 [vr 390, vr 92, vi (wr (i2 + 1)), vi i_0] [] V2 D Q)))) :
    RY d 204 48 [vr 390, vr 92, vi i2, v3] [vi i_0] V D Q := yat (c := xk_204) (hd := [2040002]) (dk := []) (dv := [2040068, 2040069]) (nb := [2040056]) rfl h
set_option maxRecDepth 20000 in
theorem u_205_0_81 {d : Nat} {i2 : Int} {V : xF} {D : yD} {Q : xRes → xF → yD → Prop}
    (h : RY d 281 0 [vr 390, vr 81, vi i2, vi 0, vr 0, vr 0, vr 0, vr 0] [] V D (yback d 205 7 [vr 390, vr 81, vi i2, vr 0, vr 0, vr 0] [] Q)) :
    RY d 205 0 [vr 390, vr 81, vi i2, vr 0, vr 0, vr 0] [] V D Q := yat (c := xk_205) (hd := []) (dk := []) (dv := []) (nb := []) rfl h
set_option maxRecDepth 20000 in
theorem u_205_7_81 {d : Nat} {i2 i_0 : Int} {V : xF} {D : yD} {Q : xRes → xF → yD → Prop}
    (h : ((0 : Int) ≤ i2 ∧ i2 < (5 : Int)) ∧ ((i_0 = ((-1)) → Q (.inl (some (vi 0))) V D) ∧ (i_0 ≠ ((-1)) → ((i_0 ≠ (V 89 i2.toNat) → (((0 : Int) ≤ i_0 ∧ i_0 < (5 : Int)) ∧ RY d 248 0 [vr 390, vr 81, vi i2, vi i_0, vi (V 85 i_0.toNat), vr 0] [] V D (yback d 205 42 [vr 390, vr 81, vi i2, vi i_0, vi (V 89 i2.toNat), vr 0] [] Q))) ∧ (i_0 = (V 89 i2.toNat) → Q (.inl (some (vi 0))) V D))))) :
    RY d 205 7 [vr 390, vr 81, vi i2, vr 0, vr 0, vr 0] [vi i_0] V D Q := yat (c := xk_205) (hd := []) (dk := []) (dv := [2050013, 2050038]) (nb := [2050018, 2050024]) rfl h
set_option maxRecDepth 20000 in
theorem u_205_42_81 {d : Nat} {i2 i3 i4 i_0 : Int} {V : xF} {D : yD} {Q : xRes → xF → yD → Prop}
    (h : (i4 ≠ ((-1)) → (((0 : Int) ≤ i4 ∧ i4 < (5 : Int)) ∧ RY d 248 0 [vr 390, vr 81, vi i2, vi i4, vi (V 85 i4.toNat), vr 0] [] V D (yback d 205 80 [vr 390, vr 81, vi i2, vi i3, vi i4, vi i_0] [vi i_0] Q))) ∧ (i4 = ((-1)) → ((i_0 < 0 → Q (.inl (some (vi 0))) V D) ∧ ((0 : Int) ≤ i_0 → Q (.inl (some (vi 1))) V D)))) :
    RY d 205 42 [vr 390, vr 81, vi i2, vi i3, vi i4, vr 0] [vi i_0] V D Q := yat (c := xk_205) (hd := []) (dk := []) (dv := [2050076]) (nb := [2050047, 2050052]) rfl h
set_option maxRecDepth 20000 in
theorem u_205_80_81 {d : Nat} {i2 i3 i4 i5 i_0 i_1 : Int} {V : xF} {D : yD} {Q : xRes → xF → yD → Prop}
    (h : (i_0 ≤ i_1 → Q (.inl (some (vi 0))) V D) ∧ (i_1 < i_0 → Q (.inl (some (vi 1))) V D)) :
    RY d 205 80 [vr 390, vr 81, vi i2, vi i3, vi i4, vi i5] [vi i_1, vi i_0] V D Q := yat (c := xk_205) (hd := []) (dk := []) (dv := []) (nb := [2050080]) rfl h
set_option maxRecDepth 20000 in
theorem u_206_0 {d : Nat} {i1 i2 : Int} {V : xF} {D : yD} {Q : xRes → xF → yD → Prop}
    (h : RY d 235 0 [vr 70, vi i1] [] V D (yback d 206 5 [vr 70, vi i1, vi i2] [] Q)) :
    RY d 206 0 [vr 70, vi i1, vi i2] [] V D Q := yat (c := xk_206) (hd := []) (dk := []) (dv := []) (nb := []) rfl h
set_option maxRecDepth 20000 in
theorem u_206_5 {d : Nat} {i1 i2 : Int} {V : xF} {D : yD} {Q : xRes → xF → yD → Prop}
    (h : RY d 255 0 [vr 70, vi i2, vi 0, vi 99] [] V D (yback d 206 13 [vr 70, vi i1, vi i2] [] Q)) :
    RY d 206 5 [vr 70, vi i1, vi i2] [] V D Q := yat (c := xk_206) (hd := []) (dk := []) (dv := []) (nb := []) rfl h
set_option maxRecDepth 20000 in
theorem u_206_13 {d : Nat} {i1 i2 : Int} {V : xF} {D : yD} {Q : xRes → xF → yD → Prop}
    (h : RY d 204 0 [vr 390, vr 81, vr 0, vr 0] [] V D (yback d 206 24 [vr 70, vi i1, vi i2] [] Q)) :
    RY d 206 13 [vr 70, vi i1, vi i2] [] V D Q := yat (c := xk_206) (hd := []) (dk := []) (dv := []) (nb := []) rfl h
set_option maxRecDepth 20000 in
theorem u_206_24 {d : Nat} {i1 i2 : Int} {V : xF} {D : yD} {Q : xRes → xF → yD → Prop}
    (h : RY d 282 0 [vr 390, vr 81, vi i1, vi i2, vr 0, vr 0] [] V D (yback d 206 37 [vr 70, vi i1, vi i2] [] Q)) :
    RY d 206 24 [vr 70, vi i1, vi i2] [] V D Q := yat (c := xk_206) (hd := []) (dk := []) (dv := []) (nb := []) rfl h
set_option maxRecDepth 20000 in
theorem u_206_37 {d : Nat} {i1 i2 i_0 : Int} {V : xF} {D : yD} {Q : xRes → xF → yD → Prop}
    (h : Q (.inl (some (vi i_0))) V D) :
    RY d 206 37 [vr 70, vi i1, vi i2] [vi i_0] V D Q := yat (c := xk_206) (hd := []) (dk := []) (dv := []) (nb := []) rfl h
set_option maxRecDepth 20000 in
theorem u_207_0 {d : Nat} {i1 i2 : Int} {V : xF} {D : yD} {Q : xRes → xF → yD → Prop}
    (h : yg_133 i1 6 V D ∧ ((0 : Int) ≤ wr ((wr ((16 : Int) + (wr ((7 : Int) * i1)))) + 6) ∧ wr ((wr ((16 : Int) + (wr ((7 : Int) * i1)))) + 6) < (731 : Int)) ∧ (∀ V1 : xF, V1 = up2 V 406 ((wr ((wr ((16 : Int) + (wr ((7 : Int) * i1)))) + 6)).toNat) i2 → RY d 207 30 [vr 405, vi i1, vi i2, vi (yr_133 i1 6 V D), vi 0, vi 0] [] V1 D Q)) :
    RY d 207 0 [vr 405, vi i1, vi i2, vr 0, vr 0, vr 0] [] V D Q := yat (c := xk_207) (hd := [2070030]) (dk := []) (dv := [2070023]) (nb := []) rfl h
set_option maxRecDepth 20000 in
theorem u_207_30 {d : Nat} {i1 i2 i3 i4 i5 : Int} {V : xF} {D : yD} {Q : xRes → xF → yD → Prop}
    (h : ((V 406 4) ≤ i5 → (((0 : Int) ≤ wr ((wr ((16 : Int) + (wr ((7 : Int) * i1)))) + 6) ∧ wr ((wr ((16 : Int) + (wr ((7 : Int) * i1)))) + 6) < (731 : Int)) ∧ (∀ V1 : xF, V1 = up2 V 406 ((wr ((wr ((16 : Int) + (wr ((7 : Int) * i1)))) + 6)).toNat) i3 → Q (.inl (some (vi i4))) V1 D))) ∧ (i5 < (V 406 4) → RY d 245 0 [vr 405, vi i5, vi i1, vr 0, vr 0, vr 0, vr 0] [] V D (yback d 207 48 [vr 405, vi i1, vi i2, vi i3, vi i4, vi i5] [] Q))) :
    RY d 207 30 [vr 405, vi i1, vi i2, vi i3, vi i4, vi i5] [] V D Q := yat (c := xk_207) (hd := [2070030]) (dk := []) (dv := [2070093]) (nb := [2070038]) rfl h
set_option maxRecDepth 20000 in
theorem u_207_48 {d : Nat} {i1 i2 i3 i4 i5 : Int} {V : xF} {D : yD} {Q : xRes → xF → yD → Prop}
    (h : ((V 405 18) ≠ 0 → RY d 207 30 [vr 405, vi i1, vi i2, vi i3, vi (wr (i4 + 0)), vi (wr (i5 + 1))] [] V D Q) ∧ ((V 405 18) = 0 → (((V 405 17) < 0 → RY d 207 30 [vr 405, vi i1, vi i2, vi i3, vi (wr (i4 + 0)), vi (wr (i5 + 1))] [] V D Q) ∧ ((0 : Int) ≤ (V 405 17) → RY d 207 30 [vr 405, vi i1, vi i2, vi i3, vi (wr (i4 + i2)), vi (wr (i5 + 1))] [] V D Q)))) :
    RY d 207 48 [vr 405, vi i1, vi i2, vi i3, vi i4, vi i5] [] V D Q := yat (c := xk_207) (hd := [2070030]) (dk := []) (dv := []) (nb := [2070054, 2070061]) rfl h
set_option maxRecDepth 20000 in
theorem u_208_0 {d : Nat} {i1 i2 i3 : Int} {V : xF} {D : yD} {Q : xRes → xF → yD → Prop}
    (h : RY d 242 0 [vr 70, vi i1] [] V D (yback d 208 5 [vr 70, vi i1, vi i2, vi i3] [] Q)) :
    RY d 208 0 [vr 70, vi i1, vi i2, vi i3] [] V D Q := yat (c := xk_208) (hd := []) (dk := []) (dv := []) (nb := []) rfl h
set_option maxRecDepth 20000 in
theorem u_208_5 {d : Nat} {i1 i2 i3 : Int} {V : xF} {D : yD} {Q : xRes → xF → yD → Prop}
    (h : RY d 242 0 [vr 70, vi i2] [] V D (yback d 208 10 [vr 70, vi i1, vi i2, vi i3] [] Q)) :
    RY d 208 5 [vr 70, vi i1, vi i2, vi i3] [] V D Q := yat (c := xk_208) (hd := []) (dk := []) (dv := []) (nb := []) rfl h
set_option maxRecDepth 20000 in
theorem u_208_10 {d : Nat} {i1 i2 i3 : Int} {V : xF} {D : yD} {Q : xRes → xF → yD → Prop}
    (h : RY d 235 0 [vr 70, vi i3] [] V D (yback d 208 15 [vr 70, vi i1, vi i2, vi i3] [] Q)) :
    RY d 208 10 [vr 70, vi i1, vi i2, vi i3] [] V D Q := yat (c := xk_208) (hd := []) (dk := []) (dv := []) (nb := []) rfl h
set_option maxRecDepth 20000 in
theorem u_208_15 {d : Nat} {i1 i2 i3 : Int} {V : xF} {D : yD} {Q : xRes → xF → yD → Prop}
    (h : RY d 283 0 [vr 70, vi i1, vi i2] [] V D (yback d 208 21 [vr 70, vi i1, vi i2, vi i3] [] Q)) :
    RY d 208 15 [vr 70, vi i1, vi i2, vi i3] [] V D Q := yat (c := xk_208) (hd := []) (dk := []) (dv := []) (nb := []) rfl h
set_option maxRecDepth 20000 in
theorem u_208_21 {d : Nat} {i1 i2 i3 : Int} {V : xF} {D : yD} {Q : xRes → xF → yD → Prop}
    (h : RY d 204 0 [vr 390, vr 81, vr 0, vr 0] [] V D (yback d 208 32 [vr 70, vi i1, vi i2, vi i3] [] Q)) :
    RY d 208 21 [vr 70, vi i1, vi i2, vi i3] [] V D Q := yat (c := xk_208) (hd := []) (dk := []) (dv := []) (nb := []) rfl h
set_option maxRecDepth 20000 in
theorem u_208_32 {d : Nat} {i1 i2 i3 : Int} {V : xF} {D : yD} {Q : xRes → xF → yD → Prop}
    (h : RY d 284 0 [vr 390, vr 81, vi i1, vi i2, vi i3, vr 0, vr 0, vr 0, vr 0, vr 0, vr 0, vr 0] [] V D (yback d 208 46 [vr 70, vi i1, vi i2, vi i3] [] Q)) :
    RY d 208 32 [vr 70, vi i1, vi i2, vi i3] [] V D Q := yat (c := xk_208) (hd := []) (dk := []) (dv := []) (nb := []) rfl h
set_option maxRecDepth 20000 in
theorem u_208_46 {d : Nat} {i1 i2 i3 i_0 : Int} {V : xF} {D : yD} {Q : xRes → xF → yD → Prop}
    (h : Q (.inl (some (vi i_0))) V D) :
    RY d 208 46 [vr 70, vi i1, vi i2, vi i3] [vi i_0] V D Q := yat (c := xk_208) (hd := []) (dk := []) (dv := []) (nb := []) rfl h
set_option maxRecDepth 20000 in
theorem u_209_0 {d : Nat} {i1 i2 i3 i4 i5 : Int} {V : xF} {D : yD} {Q : xRes → xF → yD → Prop}
    (h : (i4 ≠ 1 → RY d 147 0 [vr 405, vi i1, vi i3] [] V D (yback d 209 24 [vr 405, vi i1, vi i2, vi i3, vi i4, vi i5, vr 0] [] Q)) ∧ (i4 = 1 → ((i5 ≠ 1 → Q (.inl (some (vi 0))) V D) ∧ (i5 = 1 → Q (.inl (some (vi ((-1))))) V D)))) :
    RY d 209 0 [vr 405, vi i1, vi i2, vi i3, vi i4, vi i5, vr 0] [] V D Q := yat (c := xk_209) (hd := []) (dk := []) (dv := []) (nb := [2090003, 2090009]) rfl h
set_option maxRecDepth 20000 in
theorem u_209_24 {d : Nat} {i1 i2 i3 i4 i5 i_0 : Int} {V : xF} {D : yD} {Q : xRes → xF → yD → Prop}
    (h : (i5 ≠ 1 → (yg_143 i1 0 V D ∧ yg_143 i2 0 V D ∧ (((yr_143 i1 0 V D) ≤ (yr_143 i2 0 V D) → Q (.inl (some (vi ((-2))))) V D) ∧ ((yr_143 i2 0 V D) < (yr_143 i1 0 V D) → Q (.inl (some (vi (wr (i_0 - 8))))) V D)))) ∧ (i5 = 1 → Q (.inl (some (vi (wr (i_0.tdiv 2))))) V D)) :
    RY d 209 24 [vr 405, vi i1, vi i2, vi i3, vi i4, vi i5, vr 0] [vi i_0] V D Q := yat (c := xk_209) (hd := []) (dk := []) (dv := []) (nb := [2090029, 2090049]) rfl h
set_option maxRecDepth 20000 in
theorem u_210_0 {d : Nat} {i1 i2 : Int} {V : xF} {D : yD} {Q : xRes → xF → yD → Prop}
    (h : RY d 255 0 [vr 70, vi i1, vi 0, vi 6] [] V D (yback d 210 8 [vr 70, vi i1, vi i2] [] Q)) :
    RY d 210 0 [vr 70, vi i1, vi i2] [] V D Q := yat (c := xk_210) (hd := []) (dk := []) (dv := []) (nb := []) rfl h
set_option maxRecDepth 20000 in
theorem u_210_8 {d : Nat} {i1 i2 : Int} {V : xF} {D : yD} {Q : xRes → xF → yD → Prop}
    (h : RY d 255 0 [vr 70, vi i2, vi 0, vi 6] [] V D (yback d 210 16 [vr 70, vi i1, vi i2] [] Q)) :
    RY d 210 8 [vr 70, vi i1, vi i2] [] V D Q := yat (c := xk_210) (hd := []) (dk := []) (dv := []) (nb := []) rfl h
set_option maxRecDepth 20000 in
theorem u_210_16 {d : Nat} {i1 i2 : Int} {V : xF} {D : yD} {Q : xRes → xF → yD → Prop}
    (h : RY d 285 0 [vi (V 81 17), vi i1, vi i2, vr 0, vr 0, vr 0, vr 0, vr 0, vr 0] [] V D (yback d 210 28 [vr 70, vi i1, vi i2] [] Q)) :
    RY d 210 16 [vr 70, vi i1, vi i2] [] V D Q := yat (c := xk_210) (hd := []) (dk := []) (dv := []) (nb := []) rfl h
set_option maxRecDepth 20000 in
theorem u_210_28 {d : Nat} {i1 i2 i_0 : Int} {V : xF} {D : yD} {Q : xRes → xF → yD → Prop}
    (h : Q (.inl (some (vi i_0))) V D) :
    RY d 210 28 [vr 70, vi i1, vi i2] [vi i_0] V D Q := yat (c := xk_210) (hd := []) (dk := []) (dv := []) (nb := []) rfl h
set_option maxRecDepth 20000 in
theorem u_212_0_81 {d : Nat} {a4 : Nat} {i2 i3 : Int} {V : xF} {D : yD} {Q : xRes → xF → yD → Prop}
    (h : a4 ≠ 0 ∧ RY d 286 0 [vr a4, vi 0, vr 0, vr 0] [] V D (yback d 212 6 [vr 254, vr 81, vi i2, vi i3, vr a4, vr 0, vr 0, vr 0] [] Q)) :
    RY d 212 0 [vr 254, vr 81, vi i2, vi i3, vr a4, vr 0, vr 0, vr 0] [] V D Q := yat (c := xk_212) (hd := [2120020, 2120046, 2120100]) (dk := [2120000]) (dv := []) (nb := []) rfl h
set_option maxRecDepth 20000 in
theorem u_212_6_81 {d : Nat} {a4 : Nat} {i2 i3 : Int} {V : xF} {D : yD} {Q : xRes → xF → yD → Prop}
    (h : RY d 287 0 [vr 254, vr 81, vi i2, vi i3, vr 0] [] V D (yback d 212 13 [vr 254, vr 81, vi i2, vi i3, vr a4, vr 0, vr 0, vr 0] [] Q)) :
    RY d 212 6 [vr 254, vr 81, vi i2, vi i3, vr a4, vr 0, vr 0, vr 0] [] V D Q := yat (c := xk_212) (hd := [2120020, 2120046, 2120100]) (dk := []) (dv := []) (nb := []) rfl h
set_option maxRecDepth 20000 in
theorem u_212_13_81 {d : Nat} {a4 : Nat} {i2 i3 : Int} {V : xF} {D : yD} {Q : xRes → xF → yD → Prop}
    (h : RY d 212 20 [vr 254, vr 81, vi i2, vi i3, vr a4, vi (wr (-(V 81 16))), vr 0, vr 0] [] V D Q) :
    RY d 212 13 [vr 254, vr 81, vi i2, vi i3, vr a4, vr 0, vr 0, vr 0] [] V D Q := yat (c := xk_212) (hd := [2120020, 2120046, 2120100]) (dk := []) (dv := []) (nb := []) rfl h
set_option maxRecDepth 20000 in
theorem u_212_20_81 {d : Nat} {a4 : Nat} {i2 i3 i5 : Int} {v6 v7 : xV} {V : xF} {D : yD} {Q : xRes → xF → yD → Prop}
    (h : ((V 81 16) < i5 → RY d 212 100 [vr 254, vr 81, vi i2, vi i3, vr a4, vi 0, v6, v7] [] V D Q) ∧ (i5 ≤ (V 81 16) → RY d 212 46 [vr 254, vr 81, vi i2, vi i3, vr a4, vi i5, vi (wr ((V 81 16) - (yr_288 i5 V D))), vi (wr (-(wr ((V 81 16) - (yr_288 i5 V D)))))] [] V D Q)) :
    RY d 212 20 [vr 254, vr 81, vi i2, vi i3, vr a4, vi i5, v6, v7] [] V D Q := yat (c := xk_212) (hd := [2120020, 2120046, 2120100]) (dk := []) (dv := []) (nb := [2120026]) rfl h
set_option maxRecDepth 20000 in
theorem u_212_46_81 {d : Nat} {a4 : Nat} {i2 i3 i5 i6 i7 : Int} {V : xF} {D : yD} {Q : xRes → xF → yD → Prop}
    (h : (i6 < i7 → RY d 212 20 [vr 254, vr 81, vi i2, vi i3, vr a4, vi (wr (i5 + 1)), vi i6, vi i7] [] V D Q) ∧ (i7 ≤ i6 → ((i5 ≠ 0 → RY d 289 0 [vr 254, vi i5, vi i7, vr 0, vr 0] [] V D (yback d 212 71 [vr 254, vr 81, vi i2, vi i3, vr a4, vi i5, vi i6, vi i7] [] Q)) ∧ (i5 = 0 → ((i7 = 0 → RY d 212 46 [vr 254, vr 81, vi i2, vi i3, vr a4, vi i5, vi i6, vi (wr (i7 + 1))] [] V D Q) ∧ (i7 ≠ 0 → RY d 289 0 [vr 254, vi i5, vi i7, vr 0, vr 0] [] V D (yback d 212 71 [vr 254, vr 81, vi i2, vi i3, vr a4, vi i5, vi i6, vi i7] [] Q))))))) :
    RY d 212 46 [vr 254, vr 81, vi i2, vi i3, vr a4, vi i5, vi i6, vi i7] [] V D Q := yat (c := xk_212) (hd := [2120020, 2120046, 2120100]) (dk := []) (dv := []) (nb := [2120050, 2120055, 2120060]) rfl h
set_option maxRecDepth 20000 in
theorem u_212_71_81 {d : Nat} {a4 : Nat} {i2 i3 i5 i6 i7 : Int} {V : xF} {D : yD} {Q : xRes → xF → yD → Prop}
    (h : a4 ≠ 0 ∧ (20 ≤ (yK D.2.2.1 a4).1 ∧ (yK D.2.2.1 a4).1 ≤ 21) ∧ ((0 : Int) ≤ V 254 6 ∧ V 254 6 < ((yK D.2.2.1 a4).2 : Int)) ∧ (yK D.2.2.1 a4).1 = 20 ∧ ((0 : Int) ≤ V 254 6 ∧ V 254 6 < ((yK D.2.2.1 a4).2 : Int)) ∧ (∀ V1 : xF, V1 = up2 V a4 ((V 254 6).toNat) (wr ((V a4 ((V 254 6).toNat)) + (V 254 7))) → RY d 212 46 [vr 254, vr 81, vi i2, vi i3, vr a4, vi i5, vi i6, vi (wr (i7 + 1))] [] V1 D Q)) :
    RY d 212 71 [vr 254, vr 81, vi i2, vi i3, vr a4, vi i5, vi i6, vi i7] [] V D Q := yat (c := xk_212) (hd := [2120020, 2120046, 2120100]) (dk := [2120071, 2120078, 2120084]) (dv := [2120078, 2120084]) (nb := []) rfl h
set_option maxRecDepth 20000 in
theorem u_212_100_81 {d : Nat} {a4 : Nat} {i2 i3 i5 : Int} {v6 v7 : xV} {V : xF} {D : yD} {Q : xRes → xF → yD → Prop}
    (h : ((48 : Int) ≤ i5 → Q (.inl none) V D) ∧ (i5 < 48 → (a4 ≠ 0 ∧ (20 ≤ (yK D.2.2.1 a4).1 ∧ (yK D.2.2.1 a4).1 ≤ 21) ∧ ((0 : Int) ≤ i5 ∧ i5 < ((yK D.2.2.1 a4).2 : Int)) ∧ (((V 81 14) ≤ (V a4 i5.toNat) → RY d 212 100 [vr 254, vr 81, vi i2, vi i3, vr a4, vi (wr (i5 + 1)), v6, v7] [] V D Q) ∧ ((V a4 i5.toNat) < (V 81 14) → (a4 ≠ 0 ∧ (yK D.2.2.1 a4).1 = 20 ∧ ((0 : Int) ≤ i5 ∧ i5 < ((yK D.2.2.1 a4).2 : Int)) ∧ (∀ V1 : xF, V1 = up2 V a4 i5.toNat 0 → RY d 212 100 [vr 254, vr 81, vi i2, vi i3, vr a4, vi (wr (i5 + 1)), v6, v7] [] V1 D Q))))))) :
    RY d 212 100 [vr 254, vr 81, vi i2, vi i3, vr a4, vi i5, v6, v7] [] V D Q := yat (c := xk_212) (hd := [2120020, 2120046, 2120100]) (dk := [2120107, 2120111, 2120119, 2120124]) (dv := [2120111, 2120124]) (nb := [2120104, 2120116]) rfl h
set_option maxRecDepth 20000 in
theorem u_212_0_92 {d : Nat} {a4 : Nat} {i2 i3 : Int} {V : xF} {D : yD} {Q : xRes → xF → yD → Prop}
    (h : a4 ≠ 0 ∧ RY d 286 0 [vr a4, vi 0, vr 0, vr 0] [] V D (yback d 212 6 [vr 254, vr 92, vi i2, vi i3, vr a4, vr 0, vr 0, vr 0] [] Q)) :
    RY d 212 0 [vr 254, vr 92, vi i2, vi i3, vr a4, vr 0, vr 0, vr 0] [] V D Q := yat (c := xk_212) (hd := [2120020, 2120046, 2120100]) (dk := [2120000]) (dv := []) (nb := []) rfl h
set_option maxRecDepth 20000 in
theorem u_212_6_92 {d : Nat} {a4 : Nat} {i2 i3 : Int} {V : xF} {D : yD} {Q : xRes → xF → yD → Prop}
    (h : RY d 287 0 [vr 254, vr 92, vi i2, vi i3, vr 0] [] V D (yback d 212 13 [vr 254, vr 92, vi i2, vi i3, vr a4, vr 0, vr 0, vr 0] [] Q)) :
    RY d 212 6 [vr 254, vr 92, vi i2, vi i3, vr a4, vr 0, vr 0, vr 0] [] V D Q := yat (c := xk_212) (hd := [2120020, 2120046, 2120100]) (dk := []) (dv := []) (nb := []) rfl h
set_option maxRecDepth 20000 in
theorem u_212_13_92 {d : Nat} {a4 : Nat} {i2 i3 : Int} {V : xF} {D : yD} {Q : xRes → xF → yD → Prop}
    (h : RY d 212 20 [vr 254, vr 92, vi i2, vi i3, vr a4, vi (wr (-(V 92 16))), vr 0, vr 0] [] V D Q) :
    RY d 212 13 [vr 254, vr 92, vi i2, vi i3, vr a4, vr 0, vr 0, vr 0] [] V D Q := yat (c := xk_212) (hd := [2120020, 2120046, 2120100]) (dk := []) (dv := []) (nb := []) rfl h
set_option maxRecDepth 20000 in
theorem u_212_20_92 {d : Nat} {a4 : Nat} {i2 i3 i5 : Int} {v6 v7 : xV} {V : xF} {D : yD} {Q : xRes → xF → yD → Prop}
    (h : ((V 92 16) < i5 → RY d 212 100 [vr 254, vr 92, vi i2, vi i3, vr a4, vi 0, v6, v7] [] V D Q) ∧ (i5 ≤ (V 92 16) → RY d 212 46 [vr 254, vr 92, vi i2, vi i3, vr a4, vi i5, vi (wr ((V 92 16) - (yr_288 i5 V D))), vi (wr (-(wr ((V 92 16) - (yr_288 i5 V D)))))] [] V D Q)) :
    RY d 212 20 [vr 254, vr 92, vi i2, vi i3, vr a4, vi i5, v6, v7] [] V D Q := yat (c := xk_212) (hd := [2120020, 2120046, 2120100]) (dk := []) (dv := []) (nb := [2120026]) rfl h
set_option maxRecDepth 20000 in
theorem u_212_46_92 {d : Nat} {a4 : Nat} {i2 i3 i5 i6 i7 : Int} {V : xF} {D : yD} {Q : xRes → xF → yD → Prop}
    (h : (i6 < i7 → RY d 212 20 [vr 254, vr 92, vi i2, vi i3, vr a4, vi (wr (i5 + 1)), vi i6, vi i7] [] V D Q) ∧ (i7 ≤ i6 → ((i5 ≠ 0 → RY d 289 0 [vr 254, vi i5, vi i7, vr 0, vr 0] [] V D (yback d 212 71 [vr 254, vr 92, vi i2, vi i3, vr a4, vi i5, vi i6, vi i7] [] Q)) ∧ (i5 = 0 → ((i7 = 0 → RY d 212 46 [vr 254, vr 92, vi i2, vi i3, vr a4, vi i5, vi i6, vi (wr (i7 + 1))] [] V D Q) ∧ (i7 ≠ 0 → RY d 289 0 [vr 254, vi i5, vi i7, vr 0, vr 0] [] V D (yback d 212 71 [vr 254, vr 92, vi i2, vi i3, vr a4, vi i5, vi i6, vi i7] [] Q))))))) :
    RY d 212 46 [vr 254, vr 92, vi i2, vi i3, vr a4, vi i5, vi i6, vi i7] [] V D Q := yat (c := xk_212) (hd := [2120020, 2120046, 2120100]) (dk := []) (dv := []) (nb := [2120050, 2120055, 2120060]) rfl h
set_option maxRecDepth 20000 in
theorem u_212_71_92 {d : Nat} {a4 : Nat} {i2 i3 i5 i6 i7 : Int} {V : xF} {D : yD} {Q : xRes → xF → yD → Prop}
    (h : a4 ≠ 0 ∧ (20 ≤ (yK D.2.2.1 a4).1 ∧ (yK D.2.2.1 a4).1 ≤ 21) ∧ ((0 : Int) ≤ V 254 6 ∧ V 254 6 < ((yK D.2.2.1 a4).2 : Int)) ∧ (yK D.2.2.1 a4).1 = 20 ∧ ((0 : Int) ≤ V 254 6 ∧ V 254 6 < ((yK D.2.2.1 a4).2 : Int)) ∧ (∀ V1 : xF, V1 = up2 V a4 ((V 254 6).toNat) (wr ((V a4 ((V 254 6).toNat)) + (V 254 7))) → RY d 212 46 [vr 254, vr 92, vi i2, vi i3, vr a4, vi i5, vi i6, vi (wr (i7 + 1))] [] V1 D Q)) :
    RY d 212 71 [vr 254, vr 92, vi i2, vi i3, vr a4, vi i5, vi i6, vi i7] [] V D Q := yat (c := xk_212) (hd := [2120020, 2120046, 2120100]) (dk := [2120071, 2120078, 2120084]) (dv := [2120078, 2120084]) (nb := []) rfl h
set_option maxRecDepth 20000 in
theorem u_212_100_92 {d : Nat} {a4 : Nat} {i2 i3 i5 : Int} {v6 v7 : xV} {V : xF} {D : yD} {Q : xRes → xF → yD → Prop}
    (h : ((48 : Int) ≤ i5 → Q (.inl none) V D) ∧ (i5 < 48 → (a4 ≠ 0 ∧ (20 ≤ (yK D.2.2.1 a4).1 ∧ (yK D.2.2.1 a4).1 ≤ 21) ∧ ((0 : Int) ≤ i5 ∧ i5 < ((yK D.2.2.1 a4).2 : Int)) ∧ (((V 92 14) ≤ (V a4 i5.toNat) → RY d 212 100 [vr 254, vr 92, vi i2, vi i3, vr a4, vi (wr (i5 + 1)), v6, v7] [] V D Q) ∧ ((V a4 i5.toNat) < (V 92 14) → (a4 ≠ 0 ∧ (yK D.2.2.1 a4).1 = 20 ∧ ((0 : Int) ≤ i5 ∧ i5 < ((yK D.2.2.1 a4).2 : Int)) ∧ (∀ V1 : xF, V1 = up2 V a4 i5.toNat 0 → RY d 212 100 [vr 254, vr 92, vi i2, vi i3, vr a4, vi (wr (i5 + 1)), v6, v7] [] V1 D Q))))))) :
    RY d 212 100 [vr 254, vr 92, vi i2, vi i3, vr a4, vi i5, v6, v7] [] V D Q := yat (c := xk_212) (hd := [2120020, 2120046, 2120100]) (dk := [2120107, 2120111, 2120119, 2120124]) (dv := [2120111, 2120124]) (nb := [2120104, 2120116]) rfl h
set_option maxRecDepth 20000 in
theorem u_213_0 {d : Nat} {a0 : Nat} {V : xF} {D : yD} {Q : xRes → xF → yD → Prop}
    (h : RY d 213 4 [vr a0, vi 0, vi 0] [] V D Q) :
    RY d 213 0 [vr a0, vr 0, vr 0] [] V D Q := yat (c := xk_213) (hd := [2130004]) (dk := []) (dv := []) (nb := []) rfl h
set_option maxRecDepth 20000 in
theorem u_213_4 {d : Nat} {a0 : Nat} {i1 i2 : Int} {V : xF} {D : yD} {Q : xRes → xF → yD → Prop}
    (h : ((48 : Int) ≤ i2 → Q (.inl (some (vi i1))) V D) ∧ (i2 < 48 → (a0 ≠ 0 ∧ (20 ≤ (yK D.2.2.1 a0).1 ∧ (yK D.2.2.1 a0).1 ≤ 21) ∧ ((0 : Int) ≤ i2 ∧ i2 < ((yK D.2.2.1 a0).2 : Int)) ∧ (((V a0 i2.toNat) ≤ 0 → RY d 213 4 [vr a0, vi i1, vi (wr (i2 + 1))] [] V D Q) ∧ ((0 : Int) < (V a0 i2.toNat) → RY d 213 4 [vr a0, vi (wr (i1 + 1)), vi (wr (i2 + 1))] [] V D Q))))) :
    RY d 213 4 [vr a0, vi i1, vi i2] [] V D Q := yat (c := xk_213) (hd := [2130004]) (dk := [2130010, 2130012]) (dv := [2130012]) (nb := [2130007, 2130013]) rfl h
set_option maxRecDepth 20000 in
theorem u_214_0_81 {d : Nat} {V : xF} {D : yD} {Q : xRes → xF → yD → Prop}
    (h : RY d 214 4 [vr 81, vi 0, vi 0] [] V D Q) :
    RY d 214 0 [vr 81, vr 0, vr 0] [] V D Q := yat (c := xk_214) (hd := [2140004]) (dk := []) (dv := []) (nb := []) rfl h
set_option maxRecDepth 20000 in
theorem u_214_4_81 {d : Nat} {i1 i2 : Int} {V : xF} {D : yD} {Q : xRes → xF → yD → Prop}
    (h : ((V 81 6) ≤ i2 → Q (.inl (some (vi i1))) V D) ∧ (i2 < (V 81 6) → (((0 : Int) ≤ i2 ∧ i2 < (5 : Int)) ∧ (((V 89 i2.toNat) = ((-1)) → RY d 214 4 [vr 81, vi i1, vi (wr (i2 + 1))] [] V D Q) ∧ ((V 89 i2.toNat) ≠ ((-1)) → (((0 : Int) ≤ i2 ∧ i2 < (5 : Int)) ∧ RY d 214 4 [vr 81, vi (xor_ i1 (xshl 1 (V 89 i2.toNat))), vi (wr (i2 + 1))] [] V D Q)))))) :
    RY d 214 4 [vr 81, vi i1, vi i2] [] V D Q := yat (c := xk_214) (hd := [2140004]) (dk := []) (dv := [2140017, 2140029]) (nb := [2140009, 2140019]) rfl h
set_option maxRecDepth 20000 in
theorem u_214_0_92 {d : Nat} {V : xF} {D : yD} {Q : xRes → xF → yD → Prop}
    (h : RY d 214 4 [vr 92, vi 0, vi 0] [] V D Q) :
    RY d 214 0 [vr 92, vr 0, vr 0] [] V D Q := yat (c := xk_214) (hd := [2140004]) (dk := []) (dv := []) (nb := []) rfl h
set_option maxRecDepth 20000 in
theorem u_214_4_92 {d : Nat} {i1 i2 : Int} {V : xF} {D : yD} {Q : xRes → xF → yD → Prop}
    (h : ((V 92 6) ≤ i2 → Q (.inl (some (vi i1))) V D) ∧ (i2 < (V 92 6) → (((0 : Int) ≤ i2 ∧ i2 < (5 : Int)) ∧ (((V 100 i2.toNat) = ((-1)) → RY d 214 4 [vr 92, vi i1, vi (wr (i2 + 1))] [] V D Q) ∧ ((V 100 i2.toNat) ≠ ((-1)) → (((0 : Int) ≤ i2 ∧ i2 < (5 : Int)) ∧ RY d 214 4 [vr 92, vi (xor_ i1 (xshl 1 (V 100 i2.toNat))), vi (wr (i2 + 1))] [] V D Q)))))) :
    RY d 214 4 [vr 92, vi i1, vi i2] [] V D Q := yat (c := xk_214) (hd := [2140004]) (dk := []) (dv := [2140017, 2140029]) (nb := [2140009, 2140019]) rfl h
set_option maxRecDepth 20000 in
theorem u_216_0 {d : Nat} {i1 : Int} {V : xF} {D : yD} {Q : xRes → xF → yD → Prop}
    (h : (i1 < 0 → Q (.inr 2) V (D.1, D.2.1, D.2.2.1, D.2.2.2.1, D.2.2.2.2.1 + 1, D.2.2.2.2.2 + 6)) ∧ ((0 : Int) ≤ i1 → ((i1 < 5 → RY d 216 21 [vr 70, vi i1, vi 0, vi 0] [] V D Q) ∧ ((5 : Int) ≤ i1 → Q (.inr 2) V (D.1, D.2.1, D.2.2.1, D.2.2.2.1, D.2.2.2.2.1 + 1, D.2.2.2.2.2 + 6))))) :
    RY d 216 0 [vr 70, vi i1, vr 0, vr 0] [] V D Q := yat (c := xk_216) (hd := [2160021]) (dk := []) (dv := []) (nb := [2160001, 2160006]) rfl h
set_option maxRecDepth 20000 in
theorem u_216_21 {d : Nat} {i1 i2 i3 : Int} {V : xF} {D : yD} {Q : xRes → xF → yD → Prop}
    (h : ((wr ((4 : Int) * (V 81 0))) ≤ i3 → Q (.inl (some (vi i2))) V D) ∧ (i3 < (wr ((4 : Int) * (V 81 0))) → (((0 : Int) ≤ i3 ∧ i3 < (20 : Int)) ∧ (((V 84 i3.toNat) ≠ i1 → RY d 216 21 [vr 70, vi i1, vi i2, vi (wr (i3 + 1))] [] V D Q) ∧ ((V 84 i3.toNat) = i1 → RY d 216 21 [vr 70, vi i1, vi (wr (i2 + 1)), vi (wr (i3 + 1))] [] V D Q))))) :
    RY d 216 21 [vr 70, vi i1, vi i2, vi i3] [] V D Q := yat (c := xk_216) (hd := [2160021]) (dk := []) (dv := [2160042]) (nb := [2160031, 2160044]) rfl h
set_option maxRecDepth 20000 in
theorem u_217_0 {d : Nat} {i1 i2 : Int} {V : xF} {D : yD} {Q : xRes → xF → yD → Prop}
    (h : RY d 242 0 [vr 70, vi i1] [] V D (yback d 217 5 [vr 70, vi i1, vi i2] [] Q)) :
    RY d 217 0 [vr 70, vi i1, vi i2] [] V D Q := yat (c := xk_217) (hd := []) (dk := []) (dv := []) (nb := []) rfl h
set_option maxRecDepth 20000 in
theorem u_217_5 {d : Nat} {i1 i2 : Int} {V : xF} {D : yD} {Q : xRes → xF → yD → Prop}
    (h : RY d 255 0 [vr 70, vi i2, vi 0, vi 60] [] V D (yback d 217 13 [vr 70, vi i1, vi i2] [] Q)) :
    RY d 217 5 [vr 70, vi i1, vi i2] [] V D Q := yat (c := xk_217) (hd := []) (dk := []) (dv := []) (nb := []) rfl h
set_option maxRecDepth 20000 in
theorem u_217_13 {d : Nat} {i1 i2 : Int} {V : xF} {D : yD} {Q : xRes → xF → yD → Prop}
    (h : RY d 224 0 [vr 92, vr 81] [] V D (yback d 217 24 [vr 70, vi i1, vi i2] [] Q)) :
    RY d 217 13 [vr 70, vi i1, vi i2] [] V D Q := yat (c := xk_217) (hd := []) (dk := []) (dv := []) (nb := []) rfl h
set_option maxRecDepth 20000 in
theorem u_217_24 {d : Nat} {i1 i2 : Int} {V : xF} {D : yD} {Q : xRes → xF → yD → Prop}
    (h : RY d 257 0 [vr 404, vr 92, vi i2, vi 0, vr 0, vr 0] [] V D (yback d 217 37 [vr 70, vi i1, vi i2] [] Q)) :
    RY d 217 24 [vr 70, vi i1, vi i2] [] V D Q := yat (c := xk_217) (hd := []) (dk := []) (dv := []) (nb := []) rfl h
set_option maxRecDepth 20000 in
theorem u_217_37 {d : Nat} {i1 i2 : Int} {V : xF} {D : yD} {Q : xRes → xF → yD → Prop}
    (h : ((0 : Int) ≤ i1 ∧ i1 < (5 : Int)) ∧ Q (.inl (some (vi (V 100 i1.toNat)))) V D) :
    RY d 217 37 [vr 70, vi i1, vi i2] [] V D Q := yat (c := xk_217) (hd := []) (dk := []) (dv := [2170045]) (nb := []) rfl h
set_option maxRecDepth 20000 in
theorem u_218_0 {d : Nat} {i1 i2 : Int} {V : xF} {D : yD} {Q : xRes → xF → yD → Prop}
    (h : RY d 255 0 [vr 70, vi i1, vi 0, vi 60] [] V D (yback d 218 8 [vr 70, vi i1, vi i2] [] Q)) :
    RY d 218 0 [vr 70, vi i1, vi i2] [] V D Q := yat (c := xk_218) (hd := []) (dk := []) (dv := []) (nb := []) rfl h
set_option maxRecDepth 20000 in
theorem u_218_8 {d : Nat} {i1 i2 : Int} {V : xF} {D : yD} {Q : xRes → xF → yD → Prop}
    (h : RY d 224 0 [vr 92, vr 81] [] V D (yback d 218 19 [vr 70, vi i1, vi i2] [] Q)) :
    RY d 218 8 [vr 70, vi i1, vi i2] [] V D Q := yat (c := xk_218) (hd := []) (dk := []) (dv := []) (nb := []) rfl h
set_option maxRecDepth 20000 in
theorem u_218_19 {d : Nat} {i1 i2 : Int} {V : xF} {D : yD} {Q : xRes → xF → yD → Prop}
    (h : RY d 257 0 [vr 404, vr 92, vi i1, vi 1, vr 0, vr 0] [] V D (yback d 218 32 [vr 70, vi i1, vi i2] [] Q)) :
    RY d 218 19 [vr 70, vi i1, vi i2] [] V D Q := yat (c := xk_218) (hd := []) (dk := []) (dv := []) (nb := []) rfl h
set_option maxRecDepth 20000 in
theorem u_218_32 {d : Nat} {i1 i2 : Int} {V : xF} {D : yD} {Q : xRes → xF → yD → Prop}
    (h : (i2 = 0 → RY d 214 0 [vr 92, vr 0, vr 0] [] V D (yback d 218 53 [vr 70, vi i1, vi i2] [] Q)) ∧ (i2 ≠ 0 → RY d 290 0 [vr 92, vr 0, vr 0, vr 0] [] V D (yback d 218 43 [vr 70, vi i1, vi i2] [] Q))) :
    RY d 218 32 [vr 70, vi i1, vi i2] [] V D Q := yat (c := xk_218) (hd := []) (dk := []) (dv := []) (nb := [2180033]) rfl h
set_option maxRecDepth 20000 in
theorem u_218_43 {d : Nat} {i1 i2 i_0 : Int} {V : xF} {D : yD} {Q : xRes → xF → yD → Prop}
    (h : Q (.inl (some (vi i_0))) V D) :
    RY d 218 43 [vr 70, vi i1, vi i2] [vi i_0] V D Q := yat (c := xk_218) (hd := []) (dk := []) (dv := []) (nb := []) rfl h
set_option maxRecDepth 20000 in
theorem u_218_53 {d : Nat} {i1 i2 i_0 : Int} {V : xF} {D : yD} {Q : xRes → xF → yD → Prop}
    (h : Q (.inl (some (vi i_0))) V D) :
    RY d 218 53 [vr 70, vi i1, vi i2] [vi i_0] V D Q := yat (c := xk_218) (hd := []) (dk := []) (dv := []) (nb := []) rfl h
set_option maxRecDepth 20000 in
theorem u_219_0 {d : Nat} {i1 : Int} {V : xF} {D : yD} {Q : xRes → xF → yD → Prop}
    (h : RY d 219 4 [vr 405, vi i1, vi 0, vi 0] [] V D Q) :
    RY d 219 0 [vr 405, vi i1, vr 0, vr 0] [] V D Q := yat (c := xk_219) (hd := [2190004]) (dk := []) (dv := []) (nb := []) rfl h
set_option maxRecDepth 20000 in
theorem u_219_4 {d : Nat} {i1 i2 i3 : Int} {V : xF} {D : yD} {Q : xRes → xF → yD → Prop}
    (h : ((V 406 3) ≤ i3 → Q (.inl (some (vi i2))) V D) ∧ (i3 < (V 406 3) → (((yr_198 i1 i3 V D) = 0 → RY d 219 4 [vr 405, vi i1, vi (wr (i2 + 0)), vi (wr (i3 + 1))] [] V D Q) ∧ ((yr_198 i1 i3 V D) ≠ 0 → (yg_133 i3 6 V D ∧ RY d 219 4 [vr 405, vi i1, vi (wr (i2 + (yr_133 i3 6 V D))), vi (wr (i3 + 1))] [] V D Q))))) :
    RY d 219 4 [vr 405, vi i1, vi i2, vi i3] [] V D Q := yat (c := xk_219) (hd := [2190004]) (dk := []) (dv := []) (nb := [2190011, 2190020]) rfl h
set_option maxRecDepth 20000 in
theorem u_220_0 {d : Nat} {i1 i2 : Int} {V : xF} {D : yD} {Q : xRes → xF → yD → Prop}
    (h : RY d 255 0 [vr 70, vi i1, vi 0, vi 60] [] V D (yback d 220 8 [vr 70, vi i1, vi i2, vr 0, vr 0, vr 0, vr 0] [] Q)) :
    RY d 220 0 [vr 70, vi i1, vi i2, vr 0, vr 0, vr 0, vr 0] [] V D Q := yat (c := xk_220) (hd := [2200016]) (dk := []) (dv := []) (nb := []) rfl h
set_option maxRecDepth 20000 in
theorem u_220_8 {d : Nat} {i1 i2 : Int} {V : xF} {D : yD} {Q : xRes → xF → yD → Prop}
    (h : RY d 220 16 [vr 70, vi i1, vi i2, vi 5, vi 0, vi 1, vr 0] [] V D Q) :
    RY d 220 8 [vr 70, vi i1, vi i2, vr 0, vr 0, vr 0, vr 0] [] V D Q := yat (c := xk_220) (hd := [2200016]) (dk := []) (dv := []) (nb := []) rfl h
set_option maxRecDepth 20000 in
theorem u_220_16 {d : Nat} {i1 i2 i3 i4 i5 : Int} {v6 : xV} {V : xF} {D : yD} {Q : xRes → xF → yD → Prop}
    (h : ((6 : Int) < i5 → ((i2 = 0 → Q (.inl (some (vi i3))) V D) ∧ (i2 ≠ 0 → Q (.inl (some (vi i4))) V D))) ∧ (i5 ≤ 6 → RY d 224 0 [vr 92, vr 81] [] V D (yback d 220 34 [vr 70, vi i1, vi i2, vi i3, vi i4, vi i5, v6] [] Q))) :
    RY d 220 16 [vr 70, vi i1, vi i2, vi i3, vi i4, vi i5, v6] [] V D Q := yat (c := xk_220) (hd := [2200016]) (dk := []) (dv := []) (nb := [2200020, 2200091]) rfl h
set_option maxRecDepth 20000 in
theorem u_220_34 {d : Nat} {i1 i2 i3 i4 i5 : Int} {v6 : xV} {V : xF} {D : yD} {Q : xRes → xF → yD → Prop}
    (h : ∀ V1 : xF, V1 = up2 V 92 19 i5 → RY d 257 0 [vr 404, vr 92, vi i1, vi 1, vr 0, vr 0] [] V1 D (yback d 220 56 [vr 70, vi i1, vi i2, vi i3, vi i4, vi i5, v6] [] Q)) :
    RY d 220 34 [vr 70, vi i1, vi i2, vi i3, vi i4, vi i5, v6] [] V D Q := yat (c := xk_220) (hd := [2200016]) (dk := []) (dv := []) (nb := []) rfl h
set_option maxRecDepth 20000 in
theorem u_220_56 {d : Nat} {i1 i2 i3 i4 i5 : Int} {v6 : xV} {V : xF} {D : yD} {Q : xRes → xF → yD → Prop}
    (h : RY d 214 0 [vr 92, vr 0, vr 0] [] V D (yback d 220 63 [vr 70, vi i1, vi i2, vi i3, vi i4, vi i5, v6] [] Q)) :
    RY d 220 56 [vr 70, vi i1, vi i2, vi i3, vi i4, vi i5, v6] [] V D Q := yat (c := xk_220) (hd := [2200016]) (dk := []) (dv := []) (nb := []) rfl h
set_option maxRecDepth 20000 in
theorem u_220_63 {d : Nat} {i1 i2 i3 i4 i5 i_0 : Int} {v6 : xV} {V : xF} {D : yD} {Q : xRes → xF → yD → Prop}
    (h : RY d 220 16 [vr 70, vi i1, vi i2, vi (yr_291 i3 (yr_258 i_0 V D) V D), vi (yr_292 i4 (yr_258 i_0 V D) V D), vi (wr (i5 + 1)), vi (yr_258 i_0 V D)] [] V D Q) :
    RY d 220 63 [vr 70, vi i1, vi i2, vi i3, vi i4, vi i5, v6] [vi i_0] V D Q := yat (c := xk_220) (hd := [2200016]) (dk := []) (dv := []) (nb := []) rfl h
set_option maxRecDepth 20000 in
theorem u_221_0 {d : Nat} {i1 i2 : Int} {V : xF} {D : yD} {Q : xRes → xF → yD → Prop}
    (h : RY d 235 0 [vr 70, vi i1] [] V D (yback d 221 5 [vr 70, vi i1, vi i2] [] Q)) :
    RY d 221 0 [vr 70, vi i1, vi i2] [] V D Q := yat (c := xk_221) (hd := []) (dk := []) (dv := []) (nb := []) rfl h
set_option maxRecDepth 20000 in
theorem u_221_5 {d : Nat} {i1 i2 : Int} {V : xF} {D : yD} {Q : xRes → xF → yD → Prop}
    (h : (i2 = 0 → RY d 294 0 [vr 90, vi i1, vr 0, vr 0] [] V D (yback d 221 34 [vr 70, vi i1, vi i2] [] Q)) ∧ (i2 ≠ 0 → RY d 293 0 [vr 90, vi i1, vr 0] [] V D (yback d 221 20 [vr 70, vi i1, vi i2] [] Q))) :
    RY d 221 5 [vr 70, vi i1, vi i2] [] V D Q := yat (c := xk_221) (hd := []) (dk := []) (dv := []) (nb := [2210006]) rfl h
set_option maxRecDepth 20000 in
theorem u_221_20 {d : Nat} {i1 i2 i_0 : Int} {V : xF} {D : yD} {Q : xRes → xF → yD → Prop}
    (h : Q (.inl (some (vi i_0))) V D) :
    RY d 221 20 [vr 70, vi i1, vi i2] [vi i_0] V D Q := yat (c := xk_221) (hd := []) (dk := []) (dv := []) (nb := []) rfl h
set_option maxRecDepth 20000 in
theorem u_221_34 {d : Nat} {i1 i2 i_0 : Int} {V : xF} {D : yD} {Q : xRes → xF → yD → Prop}
    (h : Q (.inl (some (vi i_0))) V D) :
    RY d 221 34 [vr 70, vi i1, vi i2] [vi i_0] V D Q := yat (c := xk_221) (hd := []) (dk := []) (dv := []) (nb := []) rfl h
set_option maxRecDepth 20000 in
theorem u_223_0 {d : Nat} {i1 i2 : Int} {V : xF} {D : yD} {Q : xRes → xF → yD → Prop}
    (h : (i2 < 0 → Q (.inr 4) V (D.1, D.2.1, D.2.2.1, D.2.2.2.1, D.2.2.2.2.1 + 1, D.2.2.2.2.2 + 6)) ∧ ((0 : Int) ≤ i2 → ((i2 ≤ 3 → (yg_295 i1 i2 V D ∧ Q (.inl (some (vi (yr_295 i1 i2 V D)))) V D)) ∧ ((3 : Int) < i2 → Q (.inr 4) V (D.1, D.2.1, D.2.2.1, D.2.2.2.1, D.2.2.2.2.1 + 1, D.2.2.2.2.2 + 6))))) :
    RY d 223 0 [vr 70, vi i1, vi i2] [] V D Q := yat (c := xk_223) (hd := []) (dk := []) (dv := []) (nb := [2230001, 2230006]) rfl h
set_option maxRecDepth 20000 in
theorem u_224_0 {d : Nat} {a0 a1 : Nat} {V : xF} {D : yD} {Q : xRes → xF → yD → Prop}
    (h : a0 ≠ 0 ∧ a1 ≠ 0 ∧ (yK D.2.2.1 a1).1 = 10 ∧ (yK D.2.2.1 a0).1 = 10 ∧ (∀ V1 : xF, V1 = up2 V a0 0 (V a1 0) → (a1 ≠ 0 ∧ (yK D.2.2.1 a1).1 = 10 ∧ yR D.2.1 D.2.2.1 a1 1 ≠ 0 ∧ a0 ≠ 0 ∧ (yK D.2.2.1 a0).1 = 10 ∧ yR D.2.1 D.2.2.1 a0 1 ≠ 0 ∧ (yK D.2.2.1 (yR D.2.1 D.2.2.1 a1 1)).1 = 20 ∧ (yK D.2.2.1 (yR D.2.1 D.2.2.1 a0 1)).1 = 20 ∧ Nat.ble 0 8 = true ∧ ((0 : Int) ≤ 0 ∧ (0 : Int) ≤ 0 ∧ (0 : Int) ≤ 5) ∧ (0 : Int) + 5 ≤ ((yK D.2.2.1 (yR D.2.1 D.2.2.1 a1 1)).2 : Int) ∧ (0 : Int) + 5 ≤ ((yK D.2.2.1 (yR D.2.1 D.2.2.1 a0 1)).2 : Int) ∧ (∀ V2 : xF, V2 = xcpy V1 (yR D.2.1 D.2.2.1 a1 1) 0 (yR D.2.1 D.2.2.1 a0 1) 0 5 → (a1 ≠ 0 ∧ (yK D.2.2.1 a1).1 = 10 ∧ yR D.2.1 D.2.2.1 a1 2 ≠ 0 ∧ a0 ≠ 0 ∧ (yK D.2.2.1 a0).1 = 10 ∧ yR D.2.1 D.2.2.1 a0 2 ≠ 0 ∧ (yK D.2.2.1 (yR D.2.1 D.2.2.1 a1 2)).1 = 20 ∧ (yK D.2.2.1 (yR D.2.1 D.2.2.1 a0 2)).1 = 20 ∧ Nat.ble 0 8 = true ∧ ((0 : Int) ≤ 0 ∧ (0 : Int) ≤ 0 ∧ (0 : Int) ≤ 5) ∧ (0 : Int) + 5 ≤ ((yK D.2.2.1 (yR D.2.1 D.2.2.1 a1 2)).2 : Int) ∧ (0 : Int) + 5 ≤ ((yK D.2.2.1 (yR D.2.1 D.2.2.1 a0 2)).2 : Int) ∧ (∀ V3 : xF, V3 = xcpy V2 (yR D.2.1 D.2.2.1 a1 2) 0 (yR D.2.1 D.2.2.1 a0 2) 0 5 → (a1 ≠ 0 ∧ (yK D.2.2.1 a1).1 = 10 ∧ yR D.2.1 D.2.2.1 a1 3 ≠ 0 ∧ a0 ≠ 0 ∧ (yK D.2.2.1 a0).1 = 10 ∧ yR D.2.1 D.2.2.1 a0 3 ≠ 0 ∧ (yK D.2.2.1 (yR D.2.1 D.2.2.1 a1 3)).1 = 20 ∧ (yK D.2.2.1 (yR D.2.1 D.2.2.1 a0 3)).1 = 20 ∧ Nat.ble 0 8 = true ∧ ((0 : Int) ≤ 0 ∧ (0 : Int) ≤ 0 ∧ (0 : Int) ≤ 20) ∧ (0 : Int) + 20 ≤ ((yK D.2.2.1 (yR D.2.1 D.2.2.1 a1 3)).2 : Int) ∧ (0 : Int) + 20 ≤ ((yK D.2.2.1 (yR D.2.1 D.2.2.1 a0 3)).2 : Int) ∧ (∀ V4 : xF, V4 = xcpy V3 (yR D.2.1 D.2.2.1 a1 3) 0 (yR D.2.1 D.2.2.1 a0 3) 0 20 → (a1 ≠ 0 ∧ (yK D.2.2.1 a1).1 = 10 ∧ yR D.2.1 D.2.2.1 a1 4 ≠ 0 ∧ a0 ≠ 0 ∧ (yK D.2.2.1 a0).1 = 10 ∧ yR D.2.1 D.2.2.1 a0 4 ≠ 0 ∧ (yK D.2.2.1 (yR D.2.1 D.2.2.1 a1 4)).1 = 20 ∧ (yK D.2.2.1 (yR D.2.1 D.2.2.1 a0 4)).1 = 20 ∧ Nat.ble 0 8 = true ∧ ((0 : Int) ≤ 0 ∧ (0 : Int) ≤ 0 ∧ (0 : Int) ≤ 5) ∧ (0 : Int) + 5 ≤ ((yK D.2.2.1 (yR D.2.1 D.2.2.1 a1 4)).2 : Int) ∧ (0 : Int) + 5 ≤ ((yK D.2.2.1 (yR D.2.1 D.2.2.1 a0 4)).2 : Int) ∧ (∀ V5 : xF, V5 = xcpy V4 (yR D.2.1 D.2.2.1 a1 4) 0 (yR D.2.1 D.2.2.1 a0 4) 0 5 → (a1 ≠ 0 ∧ (yK D.2.2.1 a1).1 = 10 ∧ yR D.2.1 D.2.2.1 a1 5 ≠ 0 ∧ a0 ≠ 0 ∧ (yK D.2.2.1 a0).1 = 10 ∧ yR D.2.1 D.2.2.1 a0 5 ≠ 0 ∧ (yK D.2.2.1 (yR D.2.1 D.2.2.1 a1 5)).1 = 20 ∧ (yK D.2.2.1 (yR D.2.1 D.2.2.1 a0 5)).1 = 20 ∧ Nat.ble 0 8 = true ∧ ((0 : Int) ≤ 0 ∧ (0 : Int) ≤ 0 ∧ (0 : Int) ≤ 5) ∧ (0 : Int) + 5 ≤ ((yK D.2.2.1 (yR D.2.1 D.2.2.1 a1 5)).2 : Int) ∧ (0 : Int) + 5 ≤ ((yK D.2.2.1 (yR D.2.1 D.2.2.1 a0 5)).2 : Int) ∧ (∀ V6 : xF, V6 = xcpy V5 (yR D.2.1 D.2.2.1 a1 5) 0 (yR D.2.1 D.2.2.1 a0 5) 0 5 → (a0 ≠ 0 ∧ a1 ≠ 0 ∧ (yK D.2.2.1 a1).1 = 10 ∧ (yK D.2.2.1 a0).1 = 10 ∧ (∀ V7 : xF, V7 = up2 V6 a0 6 (V6 a1 6) → (a1 ≠ 0 ∧ (yK D.2.2.1 a1).1 = 10 ∧ yR D.2.1 D.2.2.1 a1 7 ≠ 0 ∧ a0 ≠ 0 ∧ (yK D.2.2.1 a0).1 = 10 ∧ yR D.2.1 D.2.2.1 a0 7 ≠ 0 ∧ (yK D.2.2.1 (yR D.2.1 D.2.2.1 a1 7)).1 = 20 ∧ (yK D.2.2.1 (yR D.2.1 D.2.2.1 a0 7)).1 = 20 ∧ Nat.ble 0 8 = true ∧ ((0 : Int) ≤ 0 ∧ (0 : Int) ≤ 0 ∧ (0 : Int) ≤ 5) ∧ (0 : Int) + 5 ≤ ((yK D.2.2.1 (yR D.2.1 D.2.2.1 a1 7)).2 : Int) ∧ (0 : Int) + 5 ≤ ((yK D.2.2.1 (yR D.2.1 D.2.2.1 a0 7)).2 : Int) ∧ (∀ V8 : xF, V8 = xcpy V7 (yR D.2.1 D.2.2.1 a1 7) 0 (yR D.2.1 D.2.2.1 a0 7) 0 5 → (a1 ≠ 0 ∧ (yK D.2.2.1 a1).1 = 10 ∧ yR D.2.1 D.2.2.1 a1 8 ≠ 0 ∧ a0 ≠ 0 ∧ (yK D.2.2.1 a0).1 = 10 ∧ yR D.2.1 D.2.2.1 a0 8 ≠ 0 ∧ (yK D.2.2.1 (yR D.2.1 D.2.2.1 a1 8)).1 = 20 ∧ (yK D.2.2.1 (yR D.2.1 D.2.2.1 a0 8)).1 = 20 ∧ Nat.ble 0 8 = true ∧ ((0 : Int) ≤ 0 ∧ (0 : Int) ≤ 0 ∧ (0 : Int) ≤ 5) ∧ (0 : Int) + 5 ≤ ((yK D.2.2.1 (yR D.2.1 D.2.2.1 a1 8)).2 : Int) ∧ (0 : Int) + 5 ≤ ((yK D.2.2.1 (yR D.2.1 D.2.2.1 a0 8)).2 : Int) ∧ (∀ V9 : xF, V9 = xcpy V8 (yR D.2.1 D.2.2.1 a1 8) 0 (yR D.2.1 D.2.2.1 a0 8) 0 5 → (a1 ≠ 0 ∧ (yK D.2.2.1 a1).1 = 10 ∧ yR D.2.1 D.2.2.1 a1 9 ≠ 0 ∧ a0 ≠ 0 ∧ (yK D.2.2.1 a0).1 = 10 ∧ yR D.2.1 D.2.2.1 a0 9 ≠ 0 ∧ (yK D.2.2.1 (yR D.2.1 D.2.2.1 a1 9)).1 = 20 ∧ (yK D.2.2.1 (yR D.2.1 D.2.2.1 a0 9)).1 = 20 ∧ Nat.ble 0 8 = true ∧ ((0 : Int) ≤ 0 ∧ (0 : Int) ≤ 0 ∧ (0 : Int) ≤ 5) ∧ (0 : Int) + 5 ≤ ((yK D.2.2.1 (yR D.2.1 D.2.2.1 a1 9)).2 : Int) ∧ (0 : Int) + 5 ≤ ((yK D.2.2.1 (yR D.2.1 D.2.2.1 a0 9)).2 : Int) ∧ (∀ V10 : xF, V10 = xcpy V9 (yR D.2.1 D.2.2.1 a1 9) 0 (yR D.2.1 D.2.2.1 a0 9) 0 5 → (a0 ≠ 0 ∧ a1 ≠ 0 ∧ (yK D.2.2.1 a1).1 = 10 ∧ (yK D.2.2.1 a0).1 = 10 ∧ (∀ V11 : xF, V11 = up2 V10 a0 10 (V10 a1 10) → (a0 ≠ 0 ∧ a1 ≠ 0 ∧ (yK D.2.2.1 a1).1 = 10 ∧ yR D.2.1 D.2.2.1 a1 11 ≠ 0 ∧ (yK D.2.2.1 a0).1 = 10 ∧ yR D.2.1 D.2.2.1 a1 11 ≠ 0 ∧ yst a0 = true ∧ (∀ D12 : yD, D12 = (D.1, up1 D.2.1 a0 (yR D.2.1 D.2.2.1 a1 11), D.2.2) → (a0 ≠ 0 ∧ a1 ≠ 0 ∧ (yK D12.2.2.1 a1).1 = 10 ∧ (yK D12.2.2.1 a0).1 = 10 ∧ (∀ V13 : xF, V13 = up2 V11 a0 12 (V11 a1 12) → (a0 ≠ 0 ∧ a1 ≠ 0 ∧ (yK D12.2.2.1 a1).1 = 10 ∧ (yK D12.2.2.1 a0).1 = 10 ∧ (∀ V14 : xF, V14 = up2 V13 a0 13 (V13 a1 13) → (a0 ≠ 0 ∧ a1 ≠ 0 ∧ (yK D12.2.2.1 a1).1 = 10 ∧ (yK D12.2.2.1 a0).1 = 10 ∧ (∀ V15 : xF, V15 = up2 V14 a0 14 (V14 a1 14) → (a0 ≠ 0 ∧ a1 ≠ 0 ∧ (yK D12.2.2.1 a1).1 = 10 ∧ (yK D12.2.2.1 a0).1 = 10 ∧ (∀ V16 : xF, V16 = up2 V15 a0 15 (V15 a1 15) → (a0 ≠ 0 ∧ a1 ≠ 0 ∧ (yK D12.2.2.1 a1).1 = 10 ∧ (yK D12.2.2.1 a0).1 = 10 ∧ (∀ V17 : xF, V17 = up2 V16 a0 16 (V16 a1 16) → (a0 ≠ 0 ∧ a1 ≠ 0 ∧ (yK D12.2.2.1 a1).1 = 10 ∧ (yK D12.2.2.1 a0).1 = 10 ∧ (∀ V18 : xF, V18 = up2 V17 a0 17 (V17 a1 17) → (a0 ≠ 0 ∧ a1 ≠ 0 ∧ (yK D12.2.2.1 a1).1 = 10 ∧ (yK D12.2.2.1 a0).1 = 10 ∧ (∀ V19 : xF, V19 = up2 V18 a0 18 (V18 a1 18) → (a0 ≠ 0 ∧ a1 ≠ 0 ∧ (yK D12.2.2.1 a1).1 = 10 ∧ (yK D12.2.2.1 a0).1 = 10 ∧ (∀ V20 : xF, V20 = up2 V19 a0 19 (V19 a1 19) → (a0 ≠ 0 ∧ (yK D12.2.2.1 a0).1 = 10 ∧ yR D12.2.1 D12.2.2.1 a0 20 ≠ 0 ∧ a1 ≠ 0 ∧ (yK D12.2.2.1 a1).1 = 10 ∧ yR D12.2.1 D12.2.2.1 a1 20 ≠ 0 ∧ (yK D12.2.2.1 (yR D12.2.1 D12.2.2.1 a0 20)).1 = 7 ∧ yR D12.2.1 D12.2.2.1 a0 20 ≠ 0 ∧ yR D12.2.1 D12.2.2.1 a1 20 ≠ 0 ∧ (yK D12.2.2.1 (yR D12.2.1 D12.2.2.1 a1 20)).1 = 7 ∧ (yK D12.2.2.1 (yR D12.2.1 D12.2.2.1 a0 20)).1 = 7 ∧ (∀ V21 : xF, V21 = up2 V20 (yR D12.2.1 D12.2.2.1 a0 20) 0 (V20 (yR D12.2.1 D12.2.2.1 a1 20) 0) → (yR D12.2.1 D12.2.2.1 a0 20 ≠ 0 ∧ yR D12.2.1 D12.2.2.1 a1 20 ≠ 0 ∧ (yK D12.2.2.1 (yR D12.2.1 D12.2.2.1 a1 20)).1 = 7 ∧ (yK D12.2.2.1 (yR D12.2.1 D12.2.2.1 a0 20)).1 = 7 ∧ (∀ V22 : xF, V22 = up2 V21 (yR D12.2.1 D12.2.2.1 a0 20) 1 (V21 (yR D12.2.1 D12.2.2.1 a1 20) 1) → (yR D12.2.1 D12.2.2.1 a1 20 ≠ 0 ∧ (yK D12.2.2.1 (yR D12.2.1 D12.2.2.1 a1 20)).1 = 7 ∧ yR D12.2.1 D12.2.2.1 (yR D12.2.1 D12.2.2.1 a1 20) 2 ≠ 0 ∧ yR D12.2.1 D12.2.2.1 a0 20 ≠ 0 ∧ (yK D12.2.2.1 (yR D12.2.1 D12.2.2.1 a0 20)).1 = 7 ∧ yR D12.2.1 D12.2.2.1 (yR D12.2.1 D12.2.2.1 a0 20) 2 ≠ 0 ∧ (yK D12.2.2.1 (yR D12.2.1 D12.2.2.1 (yR D12.2.1 D12.2.2.1 a1 20) 2)).1 = 20 ∧ (yK D12.2.2.1 (yR D12.2.1 D12.2.2.1 (yR D12.2.1 D12.2.2.1 a0 20) 2)).1 = 20 ∧ Nat.ble 0 8 = true ∧ ((0 : Int) ≤ 0 ∧ (0 : Int) ≤ 0 ∧ (0 : Int) ≤ 240) ∧ (0 : Int) + 240 ≤ ((yK D12.2.2.1 (yR D12.2.1 D12.2.2.1 (yR D12.2.1 D12.2.2.1 a1 20) 2)).2 : Int) ∧ (0 : Int) + 240 ≤ ((yK D12.2.2.1 (yR D12.2.1 D12.2.2.1 (yR D12.2.1 D12.2.2.1 a0 20) 2)).2 : Int) ∧ (∀ V23 : xF, V23 = xcpy V22 (yR D12.2.1 D12.2.2.1 (yR D12.2.1 D12.2.2.1 a1 20) 2) 0 (yR D12.2.1 D12.2.2.1 (yR D12.2.1 D12.2.2.1 a0 20) 2) 0 240 → Q (.inl none) V23 D12)))))))))))))))))))))))))))))))))))))))))))))) :
    RY d 224 0 [vr a0, vr a1] [] V D Q := yat (c := xk_224) (hd := []) (dk := [2240000, 2240001, 2240002, 2240005, 2240008, 2240009, 2240013, 2240014, 2240019, 2240022, 2240023, 2240027, 2240028, 2240033, 2240036, 2240037, 2240041, 2240042, 2240048, 2240051, 2240052, 2240056, 2240057, 2240062, 2240065, 2240066, 2240070, 2240071, 2240076, 2240079, 2240080, 2240081, 2240084, 2240087, 2240088, 2240092, 2240093, 2240098, 2240101, 2240102, 2240106, 2240107, 2240112, 2240115, 2240116, 2240120, 2240121, 2240126, 2240129, 2240130, 2240131, 2240134, 2240137, 2240138, 2240139, 2240142, 2240145, 2240146, 2240147, 2240150, 2240153, 2240154, 2240155, 2240158, 2240161, 2240162, 2240163, 2240166, 2240169, 2240170, 2240171, 2240174, 2240177, 2240178, 2240179, 2240182, 2240185, 2240186, 2240187, 2240190, 2240193, 2240194, 2240195, 2240198, 2240201, 2240202, 2240203, 2240206, 2240209, 2240210, 2240213, 2240214, 2240217, 2960000, 2960001, 2960002, 2960005, 2960008, 2960009, 2960010, 2960013, 2960016, 2960017, 2960021, 2960022, 2960029]) (dv := [2240019, 2240033, 2240048, 2240062, 2240076, 2240098, 2240112, 2240126, 2960029]) (nb := []) rfl h
set_option maxRecDepth 20000 in
theorem u_226_0_92 {d : Nat} {V : xF} {D : yD} {Q : xRes → xF → yD → Prop}
    (h : RY d 297 0 [vr 76, vr 0, vr 0, vr 0, vr 0] [] V D (yback d 226 7 [vr 247, vr 92, vr 0] [] Q)) :
    RY d 226 0 [vr 247, vr 92, vr 0] [] V D Q := yat (c := xk_226) (hd := [2260021]) (dk := []) (dv := []) (nb := []) rfl h
set_option maxRecDepth 20000 in
theorem u_226_7_92 {d : Nat} {V : xF} {D : yD} {Q : xRes → xF → yD → Prop}
    (h : yg_298 V D ∧ (((yr_298 V D) = 0 → RY d 226 21 [vr 247, vr 92, vi 0] [] V D Q) ∧ ((yr_298 V D) ≠ 0 → Q (.inl (some (vi 1))) V D))) :
    RY d 226 7 [vr 247, vr 92, vr 0] [] V D Q := yat (c := xk_226) (hd := [2260021]) (dk := []) (dv := []) (nb := [2260014]) rfl h
set_option maxRecDepth 20000 in
theorem u_226_21_92 {d : Nat} {i2 : Int} {V : xF} {D : yD} {Q : xRes → xF → yD → Prop}
    (h : ((14 : Int) ≤ i2 → Q (.inl (some (vi 0))) V D) ∧ (i2 < 14 → RY d 299 0 [vr 247, vr 92] [] V D (yback d 226 32 [vr 247, vr 92, vi i2] [] Q))) :
    RY d 226 21 [vr 247, vr 92, vi i2] [] V D Q := yat (c := xk_226) (hd := [2260021]) (dk := []) (dv := []) (nb := [2260024]) rfl h
set_option maxRecDepth 20000 in
theorem u_226_32_92 {d : Nat} {i2 i_0 : Int} {V : xF} {D : yD} {Q : xRes → xF → yD → Prop}
    (h : (i_0 ≠ 0 → (yg_298 V D ∧ (((yr_298 V D) = 0 → RY d 300 0 [vr 76, vi 59] [] V D (yback d 226 58 [vr 247, vr 92, vi i2] [] Q)) ∧ ((yr_298 V D) ≠ 0 → Q (.inl (some (vi 1))) V D)))) ∧ (i_0 = 0 → Q (.inl (some (vi 0))) V D)) :
    RY d 226 32 [vr 247, vr 92, vi i2] [vi i_0] V D Q := yat (c := xk_226) (hd := [2260021]) (dk := []) (dv := []) (nb := [2260032, 2260044]) rfl h
set_option maxRecDepth 20000 in
theorem u_226_58_92 {d : Nat} {i2 i_0 : Int} {V : xF} {D : yD} {Q : xRes → xF → yD → Prop}
    (h : (i_0 ≠ 0 → RY d 226 21 [vr 247, vr 92, vi (wr (i2 + 1))] [] V D Q) ∧ (i_0 = 0 → Q (.inl (some (vi 0))) V D)) :
    RY d 226 58 [vr 247, vr 92, vi i2] [vi i_0] V D Q := yat (c := xk_226) (hd := [2260021]) (dk := []) (dv := []) (nb := [2260058]) rfl h
set_option maxRecDepth 20000 in
theorem u_228_0 {d : Nat} {V : xF} {D : yD} {Q : xRes → xF → yD → Prop}
    (h : ((V 405 10) ≤ (V 405 11) → Q (.inl none) V D) ∧ ((V 405 11) < (V 405 10) → (yg_301 (V 405 11) V D ∧ (((yr_301 (V 405 11) V D) ≠ 32 → Q (.inl none) V D) ∧ ((yr_301 (V 405 11) V D) = 32 → ∀ V1 : xF, V1 = up2 V 405 11 (wr ((V 405 11) + 1)) → RY d 228 0 [vr 405] [] V1 D Q))))) :
    RY d 228 0 [vr 405] [] V D Q := yat (c := xk_228) (hd := [2280000]) (dk := []) (dv := []) (nb := [2280008, 2280021]) rfl h
set_option maxRecDepth 20000 in
theorem u_230_0 {d : Nat} {V : xF} {D : yD} {Q : xRes → xF → yD → Prop}
    (h : RY d 302 0 [vr 405, vr 39, vr 0, vr 0] [] V D (yback d 230 6 [vr 405, vr 0, vr 0, vr 0] [] Q)) :
    RY d 230 0 [vr 405, vr 0, vr 0, vr 0] [] V D Q := yat (c := xk_230) (hd := []) (dk := []) (dv := []) (nb := []) rfl h
set_option maxRecDepth 20000 in
theorem u_230_6 {d : Nat} {i_0 : Int} {V : xF} {D : yD} {Q : xRes → xF → yD → Prop}
    (h : (i_0 = 0 → RY d 302 0 [vr 405, vr 40, vr 0, vr 0] [] V D (yback d 230 19 [vr 405, vr 0, vr 0, vr 0] [] Q)) ∧ (i_0 ≠ 0 → RY d 303 0 [vr 405, vi 0, vi 50, vr 0, vr 0] [] V D (yback d 230 71 [vr 405, vi 0, vr 0, vr 0] [] Q))) :
    RY d 230 6 [vr 405, vr 0, vr 0, vr 0] [vi i_0] V D Q := yat (c := xk_230) (hd := []) (dk := []) (dv := []) (nb := [2300006]) rfl h
set_option maxRecDepth 20000 in
theorem u_230_19 {d : Nat} {i_0 : Int} {V : xF} {D : yD} {Q : xRes → xF → yD → Prop}
    (h : (i_0 = 0 → RY d 302 0 [vr 405, vr 41, vr 0, vr 0] [] V D (yback d 230 32 [vr 405, vr 0, vr 0, vr 0] [] Q)) ∧ (i_0 ≠ 0 → RY d 303 0 [vr 405, vi 0, vi 50, vr 0, vr 0] [] V D (yback d 230 71 [vr 405, vi 1, vr 0, vr 0] [] Q))) :
    RY d 230 19 [vr 405, vr 0, vr 0, vr 0] [vi i_0] V D Q := yat (c := xk_230) (hd := []) (dk := []) (dv := []) (nb := [2300019]) rfl h
set_option maxRecDepth 20000 in
theorem u_230_32 {d : Nat} {i_0 : Int} {V : xF} {D : yD} {Q : xRes → xF → yD → Prop}
    (h : (i_0 = 0 → (((V 405 12) ≠ ((-1)) → Q (.inl none) V D) ∧ ((V 405 12) = ((-1)) → ∀ V1 : xF, V1 = up2 V 405 12 (V 405 11) → Q (.inl none) V1 D))) ∧ (i_0 ≠ 0 → (((V 405 12) = ((-1)) → RY d 302 0 [vr 405, vr 42, vr 0, vr 0] [] V D (yback d 230 88 [vr 405, vi 2, vi 0, vr 0] [] Q)) ∧ ((V 405 12) ≠ ((-1)) → Q (.inl none) V D)))) :
    RY d 230 32 [vr 405, vr 0, vr 0, vr 0] [vi i_0] V D Q := yat (c := xk_230) (hd := []) (dk := []) (dv := []) (nb := [2290005, 2300032, 2300077]) rfl h
set_option maxRecDepth 20000 in
theorem u_230_71 {d : Nat} {i1 i_0 : Int} {V : xF} {D : yD} {Q : xRes → xF → yD → Prop}
    (h : ((V 405 12) = ((-1)) → RY d 302 0 [vr 405, vr 42, vr 0, vr 0] [] V D (yback d 230 88 [vr 405, vi i1, vi i_0, vr 0] [] Q)) ∧ ((V 405 12) ≠ ((-1)) → Q (.inl none) V D)) :
    RY d 230 71 [vr 405, vi i1, vr 0, vr 0] [vi i_0] V D Q := yat (c := xk_230) (hd := []) (dk := []) (dv := []) (nb := [2300077]) rfl h
set_option maxRecDepth 20000 in
theorem u_230_88 {d : Nat} {i1 i2 i_0 : Int} {V : xF} {D : yD} {Q : xRes → xF → yD → Prop}
    (h : (i_0 = 0 → (((V 405 12) ≠ ((-1)) → Q (.inl none) V D) ∧ ((V 405 12) = ((-1)) → (((V 405 18) ≠ 0 → ∀ V1 : xF, V1 = up2 V 405 18 1 → ((i1 ≠ 0 → ∀ V2 : xF, V2 = up2 V1 405 17 (wr ((V1 405 17) + (wr (-i2)))) → Q (.inl none) V2 D) ∧ (i1 = 0 → ∀ V3 : xF, V3 = up2 V1 405 17 (wr ((V1 405 17) + i2)) → Q (.inl none) V3 D))) ∧ ((V 405 18) = 0 → ((i1 ≠ 2 → ∀ V4 : xF, V4 = up2 V 405 18 0 → ((i1 ≠ 0 → ∀ V5 : xF, V5 = up2 V4 405 17 (wr ((V4 405 17) + (wr (-i2)))) → Q (.inl none) V5 D) ∧ (i1 = 0 → ∀ V6 : xF, V6 = up2 V4 405 17 (wr ((V4 405 17) + i2)) → Q (.inl none) V6 D))) ∧ (i1 = 2 → ∀ V7 : xF, V7 = up2 V 405 18 1 → ((i1 ≠ 0 → ∀ V8 : xF, V8 = up2 V7 405 17 (wr ((V7 405 17) + (wr (-i2)))) → Q (.inl none) V8 D) ∧ (i1 = 0 → ∀ V9 : xF, V9 = up2 V7 405 17 (wr ((V7 405 17) + i2)) → Q (.inl none) V9 D))))))))) ∧ (i_0 ≠ 0 → RY d 304 0 [vr 405, vr 0, vr 0] [] V D (yback d 230 95 [vr 405, vi i1, vi i2, vr 0] [] Q))) :
    RY d 230 88 [vr 405, vi i1, vi i2, vr 0] [vi i_0] V D Q := yat (c := xk_230) (hd := []) (dk := []) (dv := []) (nb := [2300088, 2300109, 2300122, 2300127, 2300144]) rfl h
set_option maxRecDepth 20000 in
theorem u_230_95 {d : Nat} {i1 i2 i_0 : Int} {V : xF} {D : yD} {Q : xRes → xF → yD → Prop}
    (h : (i_0 = 0 → (((V 405 12) ≠ ((-1)) → Q (.inl none) V D) ∧ ((V 405 12) = ((-1)) → Q (.inl none) V D))) ∧ (i_0 ≠ 0 → (((V 405 12) ≠ ((-1)) → Q (.inl none) V D) ∧ ((V 405 12) = ((-1)) → (((V 405 18) ≠ 0 → ∀ V1 : xF, V1 = up2 V 405 18 1 → ((i1 ≠ 0 → ∀ V2 : xF, V2 = up2 V1 405 17 (wr ((V1 405 17) + (wr (-i2)))) → Q (.inl none) V2 D) ∧ (i1 = 0 → ∀ V3 : xF, V3 = up2 V1 405 17 (wr ((V1 405 17) + i2)) → Q (.inl none) V3 D))) ∧ ((V 405 18) = 0 → ((i1 ≠ 2 → ∀ V4 : xF, V4 = up2 V 405 18 0 → ((i1 ≠ 0 → ∀ V5 : xF, V5 = up2 V4 405 17 (wr ((V4 405 17) + (wr (-i2)))) → Q (.inl none) V5 D) ∧ (i1 = 0 → ∀ V6 : xF, V6 = up2 V4 405 17 (wr ((V4 405 17) + i2)) → Q (.inl none) V6 D))) ∧ (i1 = 2 → ∀ V7 : xF, V7 = up2 V 405 18 1 → ((i1 ≠ 0 → ∀ V8 : xF, V8 = up2 V7 405 17 (wr ((V7 405 17) + (wr (-i2)))) → Q (.inl none) V8 D) ∧ (i1 = 0 → ∀ V9 : xF, V9 = up2 V7 405 17 (wr ((V7 405 17) + i2)) → Q (.inl none) V9 D)))))))))) :
    RY d 230 95 [vr 405, vi i1, vi i2, vr 0] [vi i_0] V D Q := yat (c := xk_230) (hd := []) (dk := []) (dv := []) (nb := [2300095, 2300109, 2300122, 2300127, 2300144]) rfl h
set_option maxRecDepth 20000 in
theorem u_231_0 {d : Nat} {V : xF} {D : yD} {Q : xRes → xF → yD → Prop}
    (h : RY d 305 0 [vr 405] [] V D (yback d 231 4 [vr 405, vr 0, vr 0] [] Q)) :
    RY d 231 0 [vr 405, vr 0, vr 0] [] V D Q := yat (c := xk_231) (hd := []) (dk := []) (dv := []) (nb := []) rfl h
set_option maxRecDepth 20000 in
theorem u_231_4 {d : Nat} {i_0 : Int} {V : xF} {D : yD} {Q : xRes → xF → yD → Prop}
    (h : RY d 302 0 [vr 405, vr 47, vr 0, vr 0] [] V D (yback d 231 11 [vr 405, vi i_0, vr 0] [] Q)) :
    RY d 231 4 [vr 405, vr 0, vr 0] [vi i_0] V D Q := yat (c := xk_231) (hd := []) (dk := []) (dv := []) (nb := []) rfl h
set_option maxRecDepth 20000 in
theorem u_231_11 {d : Nat} {i1 i_0 : Int} {V : xF} {D : yD} {Q : xRes → xF → yD → Prop}
    (h : (i_0 = 0 → RY d 302 0 [vr 405, vr 46, vr 0, vr 0] [] V D (yback d 231 28 [vr 405, vi i1, vr 0] [] Q)) ∧ (i_0 ≠ 0 → RY d 306 0 [vr 405, vi i1, vr 0, vr 0, vr 0, vr 0, vr 0, vr 0] [] V D (yback d 231 19 [vr 405, vi i1, vr 0] [] Q))) :
    RY d 231 11 [vr 405, vi i1, vr 0] [vi i_0] V D Q := yat (c := xk_231) (hd := []) (dk := []) (dv := []) (nb := [2310011]) rfl h
set_option maxRecDepth 20000 in
theorem u_231_19 {d : Nat} {i1 : Int} {V : xF} {D : yD} {Q : xRes → xF → yD → Prop}
    (h : Q (.inl none) V D) :
    RY d 231 19 [vr 405, vi i1, vr 0] [] V D Q := yat (c := xk_231) (hd := []) (dk := []) (dv := []) (nb := []) rfl h
set_option maxRecDepth 20000 in
theorem u_231_28 {d : Nat} {i1 i_0 : Int} {V : xF} {D : yD} {Q : xRes → xF → yD → Prop}
    (h : (i_0 = 0 → RY d 302 0 [vr 405, vr 61, vr 0, vr 0] [] V D (yback d 231 45 [vr 405, vi i1, vr 0] [] Q)) ∧ (i_0 ≠ 0 → RY d 307 0 [vr 405, vi i1, vr 0, vr 0, vr 0, vr 0] [] V D (yback d 231 36 [vr 405, vi i1, vr 0] [] Q))) :
    RY d 231 28 [vr 405, vi i1, vr 0] [vi i_0] V D Q := yat (c := xk_231) (hd := []) (dk := []) (dv := []) (nb := [2310028]) rfl h
set_option maxRecDepth 20000 in
theorem u_231_36 {d : Nat} {i1 : Int} {V : xF} {D : yD} {Q : xRes → xF → yD → Prop}
    (h : Q (.inl none) V D) :
    RY d 231 36 [vr 405, vi i1, vr 0] [] V D Q := yat (c := xk_231) (hd := []) (dk := []) (dv := []) (nb := []) rfl h
set_option maxRecDepth 20000 in
theorem u_231_45 {d : Nat} {i1 i_0 : Int} {V : xF} {D : yD} {Q : xRes → xF → yD → Prop}
    (h : (i_0 = 0 → RY d 302 0 [vr 405, vr 62, vr 0, vr 0] [] V D (yback d 231 61 [vr 405, vi i1, vr 0] [] Q)) ∧ (i_0 ≠ 0 → RY d 308 0 [vr 405, vr 0, vr 0, vr 0] [] V D (yback d 231 52 [vr 405, vi i1, vr 0] [] Q))) :
    RY d 231 45 [vr 405, vi i1, vr 0] [vi i_0] V D Q := yat (c := xk_231) (hd := []) (dk := []) (dv := []) (nb := [2310045]) rfl h
set_option maxRecDepth 20000 in
theorem u_231_52 {d : Nat} {i1 : Int} {V : xF} {D : yD} {Q : xRes → xF → yD → Prop}
    (h : Q (.inl none) V D) :
    RY d 231 52 [vr 405, vi i1, vr 0] [] V D Q := yat (c := xk_231) (hd := []) (dk := []) (dv := []) (nb := []) rfl h
set_option maxRecDepth 20000 in
theorem u_231_61 {d : Nat} {i1 i_0 : Int} {V : xF} {D : yD} {Q : xRes → xF → yD → Prop}
    (h : (i_0 = 0 → RY d 302 0 [vr 405, vr 63, vr 0, vr 0] [] V D (yback d 231 77 [vr 405, vi i1, vr 0] [] Q)) ∧ (i_0 ≠ 0 → RY d 309 0 [vr 405, vr 0, vr 0, vr 0] [] V D (yback d 231 68 [vr 405, vi i1, vr 0] [] Q))) :
    RY d 231 61 [vr 405, vi i1, vr 0] [vi i_0] V D Q := yat (c := xk_231) (hd := []) (dk := []) (dv := []) (nb := [2310061]) rfl h
set_option maxRecDepth 20000 in
theorem u_231_68 {d : Nat} {i1 : Int} {V : xF} {D : yD} {Q : xRes → xF → yD → Prop}
    (h : Q (.inl none) V D) :
    RY d 231 68 [vr 405, vi i1, vr 0] [] V D Q := yat (c := xk_231) (hd := []) (dk := []) (dv := []) (nb := []) rfl h
set_option maxRecDepth 20000 in
theorem u_231_77 {d : Nat} {i1 i_0 : Int} {V : xF} {D : yD} {Q : xRes → xF → yD → Prop}
    (h : (i_0 = 0 → RY d 302 0 [vr 405, vr 64, vr 0, vr 0] [] V D (yback d 231 99 [vr 405, vi i1, vr 0] [] Q)) ∧ (i_0 ≠ 0 → RY d 310 0 [vr 405, vi 8, vi 0, vi 999, vr 0] [] V D (yback d 231 90 [vr 405, vi i1, vr 0] [] Q))) :
    RY d 231 77 [vr 405, vi i1, vr 0] [vi i_0] V D Q := yat (c := xk_231) (hd := []) (dk := []) (dv := []) (nb := [2310077]) rfl h
set_option maxRecDepth 20000 in
theorem u_231_90 {d : Nat} {i1 : Int} {V : xF} {D : yD} {Q : xRes → xF → yD → Prop}
    (h : Q (.inl none) V D) :
    RY d 231 90 [vr 405, vi i1, vr 0] [] V D Q := yat (c := xk_231) (hd := []) (dk := []) (dv := []) (nb := []) rfl h
set_option maxRecDepth 20000 in
theorem u_231_99 {d : Nat} {i1 i_0 : Int} {V : xF} {D : yD} {Q : xRes → xF → yD → Prop}
    (h : (i_0 = 0 → RY d 302 0 [vr 405, vr 68, vr 0, vr 0] [] V D (yback d 231 176 [vr 405, vi i1, vr 0] [] Q)) ∧ (i_0 ≠ 0 → RY d 302 0 [vr 405, vr 65, vr 0, vr 0] [] V D (yback d 231 108 [vr 405, vi i1, vr 0] [] Q))) :
    RY d 231 99 [vr 405, vi i1, vr 0] [vi i_0] V D Q := yat (c := xk_231) (hd := []) (dk := []) (dv := []) (nb := [2310099]) rfl h
set_option maxRecDepth 20000 in
theorem u_231_108 {d : Nat} {i1 i_0 : Int} {V : xF} {D : yD} {Q : xRes → xF → yD → Prop}
    (h : (i_0 = 0 → RY d 302 0 [vr 405, vr 66, vr 0, vr 0] [] V D (yback d 231 121 [vr 405, vi i1, vr 0] [] Q)) ∧ (i_0 ≠ 0 → ∀ V1 : xF, V1 = up2 V 406 9 1 → Q (.inl none) V1 D)) :
    RY d 231 108 [vr 405, vi i1, vr 0] [vi i_0] V D Q := yat (c := xk_231) (hd := []) (dk := []) (dv := []) (nb := [2310108]) rfl h
set_option maxRecDepth 20000 in
theorem u_231_121 {d : Nat} {i1 i_0 : Int} {V : xF} {D : yD} {Q : xRes → xF → yD → Prop}
    (h : (i_0 = 0 → RY d 302 0 [vr 405, vr 67, vr 0, vr 0] [] V D (yback d 231 134 [vr 405, vi i1, vr 0] [] Q)) ∧ (i_0 ≠ 0 → ∀ V1 : xF, V1 = up2 V 406 9 2 → Q (.inl none) V1 D)) :
    RY d 231 121 [vr 405, vi i1, vr 0] [vi i_0] V D Q := yat (c := xk_231) (hd := []) (dk := []) (dv := []) (nb := [2310121]) rfl h
set_option maxRecDepth 20000 in
theorem u_231_134 {d : Nat} {i1 i_0 : Int} {V : xF} {D : yD} {Q : xRes → xF → yD → Prop}
    (h : (i_0 = 0 → RY d 305 0 [vr 405] [] V D (yback d 231 153 [vr 405, vi i1, vi ((-1))] [vr 405] Q)) ∧ (i_0 ≠ 0 → ∀ V1 : xF, V1 = up2 V 406 9 0 → Q (.inl none) V1 D)) :
    RY d 231 134 [vr 405, vi i1, vr 0] [vi i_0] V D Q := yat (c := xk_231) (hd := []) (dk := []) (dv := []) (nb := [2310134]) rfl h
set_option maxRecDepth 20000 in
theorem u_231_153 {d : Nat} {i1 i2 i_1 : Int} {V : xF} {D : yD} {Q : xRes → xF → yD → Prop}
    (h : ((V 405 12) ≠ ((-1)) → Q (.inl none) V D) ∧ ((V 405 12) = ((-1)) → ∀ V1 : xF, V1 = up2 V 405 12 i_1 → Q (.inl none) V1 D)) :
    RY d 231 153 [vr 405, vi i1, vi i2] [vi i_1, vr 405] V D Q := yat (c := xk_231) (hd := []) (dk := []) (dv := []) (nb := [2290005]) rfl h
set_option maxRecDepth 20000 in
theorem u_231_176 {d : Nat} {i1 i_0 : Int} {V : xF} {D : yD} {Q : xRes → xF → yD → Prop}
    (h : (i_0 = 0 → RY d 302 0 [vr 405, vr 69, vr 0, vr 0] [] V D (yback d 231 196 [vr 405, vi i1, vr 0] [] Q)) ∧ (i_0 ≠ 0 → RY d 310 0 [vr 405, vi 10, vi 1, vi 3, vr 0] [] V D (yback d 231 187 [vr 405, vi i1, vr 0] [] Q))) :
    RY d 231 176 [vr 405, vi i1, vr 0] [vi i_0] V D Q := yat (c := xk_231) (hd := []) (dk := []) (dv := []) (nb := [2310176]) rfl h
set_option maxRecDepth 20000 in
theorem u_231_187 {d : Nat} {i1 : Int} {V : xF} {D : yD} {Q : xRes → xF → yD → Prop}
    (h : Q (.inl none) V D) :
    RY d 231 187 [vr 405, vi i1, vr 0] [] V D Q := yat (c := xk_231) (hd := []) (dk := []) (dv := []) (nb := []) rfl h
set_option maxRecDepth 20000 in
theorem u_231_196 {d : Nat} {i1 i_0 : Int} {V : xF} {D : yD} {Q : xRes → xF → yD → Prop}
    (h : (i_0 = 0 → RY d 302 0 [vr 405, vr 53, vr 0, vr 0] [] V D (yback d 231 217 [vr 405, vi i1, vr 0] [] Q)) ∧ (i_0 ≠ 0 → RY d 310 0 [vr 405, vi 11, vi 0, vi 100, vr 0] [] V D (yback d 231 208 [vr 405, vi i1, vr 0] [] Q))) :
    RY d 231 196 [vr 405, vi i1, vr 0] [vi i_0] V D Q := yat (c := xk_231) (hd := []) (dk := []) (dv := []) (nb := [2310196]) rfl h
set_option maxRecDepth 20000 in
theorem u_231_208 {d : Nat} {i1 : Int} {V : xF} {D : yD} {Q : xRes → xF → yD → Prop}
    (h : Q (.inl none) V D) :
    RY d 231 208 [vr 405, vi i1, vr 0] [] V D Q := yat (c := xk_231) (hd := []) (dk := []) (dv := []) (nb := []) rfl h
set_option maxRecDepth 20000 in
theorem u_231_217 {d : Nat} {i1 i_0 : Int} {V : xF} {D : yD} {Q : xRes → xF → yD → Prop}
    (h : (i_0 = 0 → (((V 405 12) ≠ ((-1)) → Q (.inl none) V D) ∧ ((V 405 12) = ((-1)) → ∀ V1 : xF, V1 = up2 V 405 12 (V 405 11) → Q (.inl none) V1 D))) ∧ (i_0 ≠ 0 → RY d 310 0 [vr 405, vi 12, vi 0, vi 999, vr 0] [] V D (yback d 231 230 [vr 405, vi i1, vr 0] [] Q))) :
    RY d 231 217 [vr 405, vi i1, vr 0] [vi i_0] V D Q := yat (c := xk_231) (hd := []) (dk := []) (dv := []) (nb := [2290005, 2310217]) rfl h
set_option maxRecDepth 20000 in
theorem u_231_230 {d : Nat} {i1 : Int} {V : xF} {D : yD} {Q : xRes → xF → yD → Prop}
    (h : Q (.inl none) V D) :
    RY d 231 230 [vr 405, vi i1, vr 0] [] V D Q := yat (c := xk_231) (hd := []) (dk := []) (dv := []) (nb := []) rfl h
set_option maxRecDepth 20000 in
theorem u_232_0 {d : Nat} {i1 : Int} {V : xF} {D : yD} {Q : xRes → xF → yD → Prop}
    (h : RY d 228 0 [vr 405] [] V D (yback d 232 4 [vr 405, vi i1] [] Q)) :
    RY d 232 0 [vr 405, vi i1] [] V D Q := yat (c := xk_232) (hd := []) (dk := []) (dv := []) (nb := []) rfl h
set_option maxRecDepth 20000 in
theorem u_232_4 {d : Nat} {i1 : Int} {V : xF} {D : yD} {Q : xRes → xF → yD → Prop}
    (h : ((V 405 10) ≤ (V 405 11) → Q (.inl (some (vi 0))) V D) ∧ ((V 405 11) < (V 405 10) → (yg_301 (V 405 11) V D ∧ (((yr_301 (V 405 11) V D) ≠ i1 → Q (.inl (some (vi 0))) V D) ∧ ((yr_301 (V 405 11) V D) = i1 → Q (.inl (some (vi 1))) V D))))) :
    RY d 232 4 [vr 405, vi i1] [] V D Q := yat (c := xk_232) (hd := []) (dk := []) (dv := []) (nb := [2320012, 2320024]) rfl h
set_option maxRecDepth 20000 in
theorem u_233_0 {d : Nat} {V : xF} {D : yD} {Q : xRes → xF → yD → Prop}
    (h : ∀ V1 : xF, V1 = up2 V 248 5 0 → ∀ V2 : xF, V2 = up2 V1 248 6 0 → RY d 297 0 [vr 76, vr 0, vr 0, vr 0, vr 0] [] V2 D (yback d 233 17 [vr 248] [] Q)) :
    RY d 233 0 [vr 248] [] V D Q := yat (c := xk_233) (hd := [2330029]) (dk := []) (dv := []) (nb := []) rfl h
set_option maxRecDepth 20000 in
theorem u_233_17 {d : Nat} {V : xF} {D : yD} {Q : xRes → xF → yD → Prop}
    (h : yg_298 V D ∧ (((yr_298 V D) = 0 → RY d 233 29 [vr 248] [] V D Q) ∧ ((yr_298 V D) ≠ 0 → Q (.inl (some (vi 1))) V D))) :
    RY d 233 17 [vr 248] [] V D Q := yat (c := xk_233) (hd := [2330029]) (dk := []) (dv := []) (nb := [2330024]) rfl h
set_option maxRecDepth 20000 in
theorem u_233_29 {d : Nat} {V : xF} {D : yD} {Q : xRes → xF → yD → Prop}
    (h : ((12 : Int) ≤ (V 248 5) → Q (.inl (some (vi 0))) V D) ∧ ((V 248 5) < 12 → RY d 311 0 [vr 248] [] V D (yback d 233 42 [vr 248] [] Q))) :
    RY d 233 29 [vr 248] [] V D Q := yat (c := xk_233) (hd := [2330029]) (dk := []) (dv := []) (nb := [2330035]) rfl h
set_option maxRecDepth 20000 in
theorem u_233_42 {d : Nat} {i_0 : Int} {V : xF} {D : yD} {Q : xRes → xF → yD → Prop}
    (h : (i_0 ≠ 0 → (((0 : Int) ≤ V 248 5 ∧ V 248 5 < (12 : Int)) ∧ (∀ V1 : xF, V1 = up2 V 251 ((V 248 5).toNat) (V 248 6) → ∀ V2 : xF, V2 = up2 V1 248 5 (wr ((V1 248 5) + 1)) → (yg_298 V2 D ∧ (((yr_298 V2 D) = 0 → RY d 300 0 [vr 76, vi 59] [] V2 D (yback d 233 91 [vr 248] [] Q)) ∧ ((yr_298 V2 D) ≠ 0 → Q (.inl (some (vi 1))) V2 D)))))) ∧ (i_0 = 0 → Q (.inl (some (vi 0))) V D)) :
    RY d 233 42 [vr 248] [vi i_0] V D Q := yat (c := xk_233) (hd := [2330029]) (dk := []) (dv := [2330059]) (nb := [2330042, 2330077]) rfl h
set_option maxRecDepth 20000 in
theorem u_233_91 {d : Nat} {i_0 : Int} {V : xF} {D : yD} {Q : xRes → xF → yD → Prop}
    (h : (i_0 ≠ 0 → RY d 233 29 [vr 248] [] V D Q) ∧ (i_0 = 0 → Q (.inl (some (vi 0))) V D)) :
    RY d 233 91 [vr 248] [vi i_0] V D Q := yat (c := xk_233) (hd := [2330029]) (dk := []) (dv := []) (nb := [2330091]) rfl h
set_option maxRecDepth 20000 in
theorem u_235_0 {d : Nat} {i1 : Int} {V : xF} {D : yD} {Q : xRes → xF → yD → Prop}
    (h : (i1 < 0 → Q (.inr 2) V (D.1, D.2.1, D.2.2.1, D.2.2.2.1, D.2.2.2.2.1 + 1, D.2.2.2.2.2 + 6)) ∧ ((0 : Int) ≤ i1 → ((i1 < (V 81 0) → Q (.inl none) V D) ∧ ((V 81 0) ≤ i1 → Q (.inr 2) V (D.1, D.2.1, D.2.2.1, D.2.2.2.1, D.2.2.2.2.1 + 1, D.2.2.2.2.2 + 6))))) :
    RY d 235 0 [vr 70, vi i1] [] V D Q := yat (c := xk_235) (hd := []) (dk := []) (dv := []) (nb := [2350001, 2350012]) rfl h
set_option maxRecDepth 20000 in
theorem u_236_0_81 {d : Nat} {i1 : Int} {V : xF} {D : yD} {Q : xRes → xF → yD → Prop}
    (h : RY d 236 2 [vr 81, vi i1, vi 0] [] V D Q) :
    RY d 236 0 [vr 81, vi i1, vr 0] [] V D Q := yat (c := xk_236) (hd := [2360002]) (dk := []) (dv := []) (nb := []) rfl h
set_option maxRecDepth 20000 in
theorem u_236_2_81 {d : Nat} {i1 i2 : Int} {V : xF} {D : yD} {Q : xRes → xF → yD → Prop}
    (h : ((V 81 6) ≤ i2 → Q (.inl (some (vi ((-1))))) V D) ∧ (i2 < (V 81 6) → (((0 : Int) ≤ i2 ∧ i2 < (5 : Int)) ∧ (((V 89 i2.toNat) ≠ i1 → RY d 236 2 [vr 81, vi i1, vi (wr (i2 + 1))] [] V D Q) ∧ ((V 89 i2.toNat) = i1 → Q (.inl (some (vi i2))) V D))))) :
    RY d 236 2 [vr 81, vi i1, vi i2] [] V D Q := yat (c := xk_236) (hd := [2360002]) (dk := []) (dv := [2360015]) (nb := [2360007, 2360017]) rfl h
set_option maxRecDepth 20000 in
theorem u_236_0_92 {d : Nat} {i1 : Int} {V : xF} {D : yD} {Q : xRes → xF → yD → Prop}
    (h : RY d 236 2 [vr 92, vi i1, vi 0] [] V D Q) :
    RY d 236 0 [vr 92, vi i1, vr 0] [] V D Q := yat (c := xk_236) (hd := [2360002]) (dk := []) (dv := []) (nb := []) rfl h
set_option maxRecDepth 20000 in
theorem u_236_2_92 {d : Nat} {i1 i2 : Int} {V : xF} {D : yD} {Q : xRes → xF → yD → Prop}
    (h : ((V 92 6) ≤ i2 → Q (.inl (some (vi ((-1))))) V D) ∧ (i2 < (V 92 6) → (((0 : Int) ≤ i2 ∧ i2 < (5 : Int)) ∧ (((V 100 i2.toNat) ≠ i1 → RY d 236 2 [vr 92, vi i1, vi (wr (i2 + 1))] [] V D Q) ∧ ((V 100 i2.toNat) = i1 → Q (.inl (some (vi i2))) V D))))) :
    RY d 236 2 [vr 92, vi i1, vi i2] [] V D Q := yat (c := xk_236) (hd := [2360002]) (dk := []) (dv := [2360015]) (nb := [2360007, 2360017]) rfl h
set_option maxRecDepth 20000 in
theorem u_237_0_81 {d : Nat} {i2 : Int} {V : xF} {D : yD} {Q : xRes → xF → yD → Prop}
    (h : RY d 313 0 [vr 256, vr 81, vi i2, vr 0] [] V D (yback d 237 8 [vr 256, vr 81, vi i2, vi 0, vr 0] [] Q)) :
    RY d 237 0 [vr 256, vr 81, vi i2, vr 0, vr 0] [] V D Q := yat (c := xk_237) (hd := [2370011]) (dk := []) (dv := []) (nb := []) rfl h
set_option maxRecDepth 20000 in
theorem u_237_8_81 {d : Nat} {i2 i3 : Int} {V : xF} {D : yD} {Q : xRes → xF → yD → Prop}
    (h : RY d 237 11 [vr 256, vr 81, vi i2, vi i3, vi 0] [] V D Q) :
    RY d 237 8 [vr 256, vr 81, vi i2, vi i3, vr 0] [] V D Q := yat (c := xk_237) (hd := [2370011]) (dk := []) (dv := []) (nb := []) rfl h
set_option maxRecDepth 20000 in
theorem u_237_11_81 {d : Nat} {i2 i3 i4 : Int} {V : xF} {D : yD} {Q : xRes → xF → yD → Prop}
    (h : yg_314_81 i2 V D ∧ (((yr_314_81 i2 V D) ≤ i4 → Q (.inl (some (vi i3))) V D) ∧ (i4 < (yr_314_81 i2 V D) → ((24 ≤ (yK D.2.2.1 257).1 ∧ (yK D.2.2.1 257).1 ≤ 25) ∧ ((0 : Int) ≤ i4 ∧ i4 < (121 : Int)) ∧ yR D.2.1 D.2.2.1 257 i4.toNat ≠ 0 ∧ (∀ q1 : Nat, q1 = yR D.2.1 D.2.2.1 257 i4.toNat → RY d 213 0 [vr q1, vr 0, vr 0] [] V D (yback d 237 31 [vr 256, vr 81, vi i2, vi i3, vi i4] [] Q)))))) :
    RY d 237 11 [vr 256, vr 81, vi i2, vi i3, vi i4] [] V D Q := yat (c := xk_237) (hd := [2370011]) (dk := [2370027]) (dv := [2370027]) (nb := [2370018]) rfl h
set_option maxRecDepth 20000 in
theorem u_237_31_81 {d : Nat} {i2 i3 i4 i_0 : Int} {V : xF} {D : yD} {Q : xRes → xF → yD → Prop}
    (h : (i_0 ≠ 0 → RY d 237 11 [vr 256, vr 81, vi i2, vi i3, vi (wr (i4 + 1))] [] V D Q) ∧ (i_0 = 0 → RY d 237 11 [vr 256, vr 81, vi i2, vi (wr (i3 + 1)), vi (wr (i4 + 1))] [] V D Q)) :
    RY d 237 31 [vr 256, vr 81, vi i2, vi i3, vi i4] [vi i_0] V D Q := yat (c := xk_237) (hd := [2370011]) (dk := []) (dv := []) (nb := [2370031]) rfl h
set_option maxRecDepth 20000 in
theorem u_238_0_81 {d : Nat} {i2 : Int} {V : xF} {D : yD} {Q : xRes → xF → yD → Prop}
    (h : RY d 313 0 [vr 256, vr 81, vi i2, vr 0] [] V D (yback d 238 11 [vr 256, vr 81, vi i2, vi ((-1)), vi ((-1)), vr 0, vr 0] [] Q)) :
    RY d 238 0 [vr 256, vr 81, vi i2, vr 0, vr 0, vr 0, vr 0] [] V D Q := yat (c := xk_238) (hd := [2380014]) (dk := []) (dv := []) (nb := []) rfl h
set_option maxRecDepth 20000 in
theorem u_238_11_81 {d : Nat} {i2 i3 i4 : Int} {V : xF} {D : yD} {Q : xRes → xF → yD → Prop}
    (h : RY d 238 14 [vr 256, vr 81, vi i2, vi i3, vi i4, vi 0, vr 0] [] V D Q) :
    RY d 238 11 [vr 256, vr 81, vi i2, vi i3, vi i4, vr 0, vr 0] [] V D Q := yat (c := xk_238) (hd := [2380014]) (dk := []) (dv := []) (nb := []) rfl h
set_option maxRecDepth 20000 in
theorem u_238_14_81 {d : Nat} {i2 i3 i4 i5 : Int} {v6 : xV} {V : xF} {D : yD} {Q : xRes → xF → yD → Prop}
    (h : yg_314_81 i2 V D ∧ (((yr_314_81 i2 V D) ≤ i5 → Q (.inl (some (vi i3))) V D) ∧ (i5 < (yr_314_81 i2 V D) → ((24 ≤ (yK D.2.2.1 257).1 ∧ (yK D.2.2.1 257).1 ≤ 25) ∧ ((0 : Int) ≤ i5 ∧ i5 < (121 : Int)) ∧ yR D.2.1 D.2.2.1 257 i5.toNat ≠ 0 ∧ (∀ q1 : Nat, q1 = yR D.2.1 D.2.2.1 257 i5.toNat → RY d 213 0 [vr q1, vr 0, vr 0] [] V D (yback d 238 34 [vr 256, vr 81, vi i2, vi i3, vi i4, vi i5, v6] [] Q)))))) :
    RY d 238 14 [vr 256, vr 81, vi i2, vi i3, vi i4, vi i5, v6] [] V D Q := yat (c := xk_238) (hd := [2380014]) (dk := [2380030]) (dv := [2380030]) (nb := [2380021]) rfl h
set_option maxRecDepth 20000 in
theorem u_238_34_81 {d : Nat} {i2 i3 i4 i5 i_0 : Int} {v6 : xV} {V : xF} {D : yD} {Q : xRes → xF → yD → Prop}
    (h : (i_0 ≤ i4 → RY d 238 14 [vr 256, vr 81, vi i2, vi i3, vi i4, vi (wr (i5 + 1)), vi i_0] [] V D Q) ∧ (i4 < i_0 → (yg_315_81 i2 i5 V D ∧ RY d 238 14 [vr 256, vr 81, vi i2, vi (yr_315_81 i2 i5 V D), vi i_0, vi (wr (i5 + 1)), vi i_0] [] V D Q))) :
    RY d 238 34 [vr 256, vr 81, vi i2, vi i3, vi i4, vi i5, v6] [vi i_0] V D Q := yat (c := xk_238) (hd := [2380014]) (dk := []) (dv := []) (nb := [2380040]) rfl h
set_option maxRecDepth 20000 in
theorem u_239_0_92 {d : Nat} {i2 : Int} {V : xF} {D : yD} {Q : xRes → xF → yD → Prop}
    (h : yg_211_92 i2 V D ∧ RY d 212 0 [vr 254, vr 92, vi i2, vi (yr_211_92 i2 V D), vr 385, vr 0, vr 0, vr 0] [] V D (yback d 239 26 [vr 382, vr 92, vi i2, vi ((-1)), vi 49, vr 0, vr 0, vr 0] [] Q)) :
    RY d 239 0 [vr 382, vr 92, vi i2, vr 0, vr 0, vr 0, vr 0, vr 0] [] V D Q := yat (c := xk_239) (hd := [2390029]) (dk := []) (dv := []) (nb := []) rfl h
set_option maxRecDepth 20000 in
theorem u_239_26_92 {d : Nat} {i2 i3 i4 : Int} {V : xF} {D : yD} {Q : xRes → xF → yD → Prop}
    (h : RY d 239 29 [vr 382, vr 92, vi i2, vi i3, vi i4, vi 0, vr 0, vr 0] [] V D Q) :
    RY d 239 26 [vr 382, vr 92, vi i2, vi i3, vi i4, vr 0, vr 0, vr 0] [] V D Q := yat (c := xk_239) (hd := [2390029]) (dk := []) (dv := []) (nb := []) rfl h
set_option maxRecDepth 20000 in
theorem u_239_29_92 {d : Nat} {i2 i3 i4 i5 : Int} {v6 v7 : xV} {V : xF} {D : yD} {Q : xRes → xF → yD → Prop}
    (h : ((4 : Int) ≤ i5 → Q (.inl (some (vi i3))) V D) ∧ (i5 < 4 → (((0 : Int) ≤ wr ((wr ((4 : Int) * i2)) + i5) ∧ wr ((wr ((4 : Int) * i2)) + i5) < (20 : Int)) ∧ ((0 : Int) ≤ wr ((wr ((4 : Int) * i2)) + i5) ∧ wr ((wr ((4 : Int) * i2)) + i5) < (20 : Int)) ∧ (∀ V1 : xF, V1 = up2 V 95 ((wr ((wr ((4 : Int) * i2)) + i5)).toNat) 0 → (yg_211_92 i2 V1 D ∧ RY d 212 0 [vr 254, vr 92, vi i2, vi (yr_211_92 i2 V1 D), vr 384, vr 0, vr 0, vr 0] [] V1 D (yback d 239 80 [vr 382, vr 92, vi i2, vi i3, vi i4, vi i5, vi (V 95 ((wr ((wr ((4 : Int) * i2)) + i5)).toNat)), v7] [] Q)))))) :
    RY d 239 29 [vr 382, vr 92, vi i2, vi i3, vi i4, vi i5, v6, v7] [] V D Q := yat (c := xk_239) (hd := [2390029]) (dk := []) (dv := [2390045, 2390059]) (nb := [2390032]) rfl h
set_option maxRecDepth 20000 in
theorem u_239_80_92 {d : Nat} {i2 i3 i4 i5 i6 : Int} {v7 : xV} {V : xF} {D : yD} {Q : xRes → xF → yD → Prop}
    (h : ((0 : Int) ≤ wr ((wr ((4 : Int) * i2)) + i5) ∧ wr ((wr ((4 : Int) * i2)) + i5) < (20 : Int)) ∧ (∀ V1 : xF, V1 = up2 V 95 ((wr ((wr ((4 : Int) * i2)) + i5)).toNat) i6 → RY d 316 0 [vr 384, vr 385, vr 0, vr 0] [] V1 D (yback d 239 108 [vr 382, vr 92, vi i2, vi i3, vi i4, vi i5, vi i6, v7] [] Q))) :
    RY d 239 80 [vr 382, vr 92, vi i2, vi i3, vi i4, vi i5, vi i6, v7] [] V D Q := yat (c := xk_239) (hd := [2390029]) (dk := []) (dv := [2390092]) (nb := []) rfl h
set_option maxRecDepth 20000 in
theorem u_239_108_92 {d : Nat} {i2 i3 i4 i5 i6 i_0 : Int} {v7 : xV} {V : xF} {D : yD} {Q : xRes → xF → yD → Prop}
    (h : (i4 ≤ i_0 → RY d 239 29 [vr 382, vr 92, vi i2, vi i3, vi i4, vi (wr (i5 + 1)), vi i6, vi i_0] [] V D Q) ∧ (i_0 < i4 → RY d 239 29 [vr 382, vr 92, vi i2, vi i5, vi i_0, vi (wr (i5 + 1)), vi i6, vi i_0] [] V D Q)) :
    RY d 239 108 [vr 382, vr 92, vi i2, vi i3, vi i4, vi i5, vi i6, v7] [vi i_0] V D Q := yat (c := xk_239) (hd := [2390029]) (dk := []) (dv := []) (nb := [2390114]) rfl h
set_option maxRecDepth 20000 in
theorem u_240_0_81 {d : Nat} {i2 : Int} {V : xF} {D : yD} {Q : xRes → xF → yD → Prop}
    (h : RY d 240 8 [vr 390, vr 81, vi i2, vi 0, vi 0, vi 0, vr 0] [] V D Q) :
    RY d 240 0 [vr 390, vr 81, vi i2, vr 0, vr 0, vr 0, vr 0] [] V D Q := yat (c := xk_240) (hd := [2400008]) (dk := []) (dv := []) (nb := []) rfl h
set_option maxRecDepth 20000 in
theorem u_240_8_81 {d : Nat} {i2 i3 i4 i5 : Int} {v6 : xV} {V : xF} {D : yD} {Q : xRes → xF → yD → Prop}
    (h : ((99 : Int) < i5 → Q (.inl (some (vi i3))) V D) ∧ (i5 ≤ 99 → RY d 282 0 [vr 390, vr 81, vi i2, vi i5, vr 0, vr 0] [] V D (yback d 240 23 [vr 390, vr 81, vi i2, vi i3, vi i4, vi i5, v6] [] Q))) :
    RY d 240 8 [vr 390, vr 81, vi i2, vi i3, vi i4, vi i5, v6] [] V D Q := yat (c := xk_240) (hd := [2400008]) (dk := []) (dv := []) (nb := [2400012]) rfl h
set_option maxRecDepth 20000 in
theorem u_240_23_81 {d : Nat} {i2 i3 i4 i5 i_0 : Int} {v6 : xV} {V : xF} {D : yD} {Q : xRes → xF → yD → Prop}
    (h : (i_0 ≤ i4 → RY d 240 8 [vr 390, vr 81, vi i2, vi i3, vi i4, vi (wr (i5 + 1)), vi i_0] [] V D Q) ∧ (i4 < i_0 → RY d 240 8 [vr 390, vr 81, vi i2, vi i5, vi i_0, vi (wr (i5 + 1)), vi i_0] [] V D Q)) :
    RY d 240 23 [vr 390, vr 81, vi i2, vi i3, vi i4, vi i5, v6] [vi i_0] V D Q := yat (c := xk_240) (hd := [2400008]) (dk := []) (dv := []) (nb := [2400029]) rfl h
set_option maxRecDepth 20000 in
theorem u_241_0_81 {d : Nat} {i2 : Int} {V : xF} {D : yD} {Q : xRes → xF → yD → Prop}
    (h : RY d 290 0 [vr 81, vr 0, vr 0, vr 0] [] V D (yback d 241 4 [vr 390, vr 81, vi i2, vr 0] [] Q)) :
    RY d 241 0 [vr 390, vr 81, vi i2, vr 0] [] V D Q := yat (c := xk_241) (hd := []) (dk := []) (dv := []) (nb := []) rfl h
set_option maxRecDepth 20000 in
theorem u_241_4_81 {d : Nat} {i2 i_0 : Int} {V : xF} {D : yD} {Q : xRes → xF → yD → Prop}
    (h : (i_0 = 0 → Q (.inl (some (vi 0))) V D) ∧ (i_0 ≠ 0 → RY d 236 0 [vr 81, vi i2, vr 0] [] V D (yback d 241 14 [vr 390, vr 81, vi i2, vi i_0] [] Q))) :
    RY d 241 4 [vr 390, vr 81, vi i2, vr 0] [vi i_0] V D Q := yat (c := xk_241) (hd := []) (dk := []) (dv := []) (nb := [2410006]) rfl h
set_option maxRecDepth 20000 in
theorem u_241_14_81 {d : Nat} {i2 i3 i_0 : Int} {V : xF} {D : yD} {Q : xRes → xF → yD → Prop}
    (h : (i_0 ≠ ((-1)) → (((0 : Int) ≤ i2 ∧ i2 < (5 : Int)) ∧ i3 ≠ 0 ∧ Q (.inl (some (vi (wr ((wr ((100 : Int) * (V 85 i2.toNat))).tdiv i3))))) V D)) ∧ (i_0 = ((-1)) → Q (.inl (some (vi 0))) V D)) :
    RY d 241 14 [vr 390, vr 81, vi i2, vi i3] [vi i_0] V D Q := yat (c := xk_241) (hd := []) (dk := []) (dv := [2410029, 2410032]) (nb := [2410015]) rfl h
set_option maxRecDepth 20000 in
theorem u_242_0 {d : Nat} {i1 : Int} {V : xF} {D : yD} {Q : xRes → xF → yD → Prop}
    (h : (i1 < 0 → Q (.inr 2) V (D.1, D.2.1, D.2.2.1, D.2.2.2.1, D.2.2.2.2.1 + 1, D.2.2.2.2.2 + 6)) ∧ ((0 : Int) ≤ i1 → ((i1 < (V 81 6) → Q (.inl none) V D) ∧ ((V 81 6) ≤ i1 → Q (.inr 2) V (D.1, D.2.1, D.2.2.1, D.2.2.2.1, D.2.2.2.2.1 + 1, D.2.2.2.2.2 + 6))))) :
    RY d 242 0 [vr 70, vi i1] [] V D Q := yat (c := xk_242) (hd := []) (dk := []) (dv := []) (nb := [2420001, 2420012]) rfl h
set_option maxRecDepth 20000 in
theorem u_243_0_81 {d : Nat} {i2 : Int} {V : xF} {D : yD} {Q : xRes → xF → yD → Prop}
    (h : RY d 281 0 [vr 390, vr 81, vi i2, vi 0, vr 0, vr 0, vr 0, vr 0] [] V D (yback d 243 7 [vr 390, vr 81, vi i2] [] Q)) :
    RY d 243 0 [vr 390, vr 81, vi i2] [] V D Q := yat (c := xk_243) (hd := []) (dk := []) (dv := []) (nb := []) rfl h
set_option maxRecDepth 20000 in
theorem u_243_7_81 {d : Nat} {i2 i_0 : Int} {V : xF} {D : yD} {Q : xRes → xF → yD → Prop}
    (h : Q (.inl (some (vi i_0))) V D) :
    RY d 243 7 [vr 390, vr 81, vi i2] [vi i_0] V D Q := yat (c := xk_243) (hd := []) (dk := []) (dv := []) (nb := []) rfl h
set_option maxRecDepth 20000 in
theorem u_244_0_81 {d : Nat} {i2 : Int} {V : xF} {D : yD} {Q : xRes → xF → yD → Prop}
    (h : RY d 244 5 [vr 390, vr 81, vi i2, vi 0, vi 0, vr 0] [] V D Q) :
    RY d 244 0 [vr 390, vr 81, vi i2, vr 0, vr 0, vr 0] [] V D Q := yat (c := xk_244) (hd := [2440005, 2440053, 2440065, 2440112]) (dk := []) (dv := []) (nb := []) rfl h
set_option maxRecDepth 20000 in
theorem u_244_5_81 {d : Nat} {i2 i3 i4 : Int} {V : xF} {D : yD} {Q : xRes → xF → yD → Prop}
    (h : ((V 81 6) ≤ i4 → RY d 244 53 [vr 390, vr 81, vi i2, vi i3, vi 0, vr 0] [] V D Q) ∧ (i4 < (V 81 6) → (((0 : Int) ≤ i4 ∧ i4 < (5 : Int)) ∧ (∀ V1 : xF, V1 = up2 V 403 i4.toNat ((-1)) → (((0 : Int) ≤ i4 ∧ i4 < (5 : Int)) ∧ (((V1 89 i4.toNat) ≠ ((-1)) → RY d 244 5 [vr 390, vr 81, vi i2, vi (xor_ i3 (xshl 1 i4)), vi (wr (i4 + 1)), vr 0] [] V1 D Q) ∧ ((V1 89 i4.toNat) = ((-1)) → RY d 244 5 [vr 390, vr 81, vi i2, vi (xor_ i3 0), vi (wr (i4 + 1)), vr 0] [] V1 D Q))))))) :
    RY d 244 5 [vr 390, vr 81, vi i2, vi i3, vi i4, vr 0] [] V D Q := yat (c := xk_244) (hd := [2440005, 2440053, 2440065, 2440112]) (dk := []) (dv := [2440021, 2440029]) (nb := [2440011, 2440031]) rfl h
set_option maxRecDepth 20000 in
theorem u_244_53_81 {d : Nat} {i2 i3 i4 : Int} {v5 : xV} {V : xF} {D : yD} {Q : xRes → xF → yD → Prop}
    (h : ((V 81 6) ≤ i4 → (((0 : Int) ≤ i2 ∧ i2 < (5 : Int)) ∧ Q (.inl (some (vi (V 403 i2.toNat)))) V D)) ∧ (i4 < (V 81 6) → RY d 244 65 [vr 390, vr 81, vi i2, vi i3, vi i4, vi 0] [] V D Q)) :
    RY d 244 53 [vr 390, vr 81, vi i2, vi i3, vi i4, v5] [] V D Q := yat (c := xk_244) (hd := [2440005, 2440053, 2440065, 2440112]) (dk := []) (dv := [2440171]) (nb := [2440059]) rfl h
set_option maxRecDepth 20000 in
theorem u_244_65_81 {d : Nat} {i2 i3 i4 i5 : Int} {V : xF} {D : yD} {Q : xRes → xF → yD → Prop}
    (h : ((V 81 6) ≤ i5 → RY d 244 112 [vr 390, vr 81, vi i2, vi i3, vi i4, vi 0] [] V D Q) ∧ (i5 < (V 81 6) → (((xand (xshr i3 i5) 1) ≠ 1 → (((0 : Int) ≤ i5 ∧ i5 < (5 : Int)) ∧ (∀ V1 : xF, V1 = up2 V 402 i5.toNat ((-1)) → RY d 244 65 [vr 390, vr 81, vi i2, vi i3, vi i4, vi (wr (i5 + 1))] [] V1 D Q))) ∧ ((xand (xshr i3 i5) 1) = 1 → RY d 317 0 [vr 390, vr 81, vi i5, vi i3, vr 0, vr 0, vr 0, vr 0, vr 0] [] V D (yback d 244 98 [vr 390, vr 81, vi i2, vi i3, vi i4, vi i5] [vi i5, vr 402] Q))))) :
    RY d 244 65 [vr 390, vr 81, vi i2, vi i3, vi i4, vi i5] [] V D Q := yat (c := xk_244) (hd := [2440005, 2440053, 2440065, 2440112]) (dk := []) (dv := [2440102]) (nb := [2440071, 2440087]) rfl h
