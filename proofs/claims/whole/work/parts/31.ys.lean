/-! ===== METHODS THAT ONLY READ AND ANSWER, AND THE STRETCHES (printed by wip/whole/ym.py) ===== -/
theorem ySOK_nil : ySOK [] := fun q hq => nomatch hq
theorem ySOK_cons {S : List (Nat × ySm)} {y : Nat} {f : ySm} (h1 : ∀ (args : List xV) (V : xF) (D : yD) (gs : List Prop) (v : xV), f args V D = some (gs, v) → xall gs → ∀ d, (xlay args).length ≤ xPP.2.1 y → RY d y 0 (xlocs (xPP.2.1 y) args) [] V D (fun r V1 D1 => r = .inl (some v) ∧ V1 = V ∧ D1 = D)) (h2 : ySOK S) : ySOK ((y, f) :: S) := by
  intro q hq
  rcases List.mem_cons.mp hq with rfl | hq
  · exact h1
  · exact h2 q hq
theorem yatS {S : List (Nat × ySm)} (hS : ySOK S) {d y pc : Nat} {ls st : List xV} {V : xF} {D : yD} {Q : xRes → xF → yD → Prop} {inl dk dv nb hd : List Nat} {c : List xI} (hc : xPP.1 y = c) (h : ywp S inl dk dv nb hd 400 c (xseek pc c) d y ls st V D Q) : RY d y pc ls st V D Q := by
  cases hs : xseek pc c with
  | nil => rw [hs] at h; exact h.elim
  | cons e r =>
    rw [hs] at h
    have := xseek_head hs
    subst this
    exact ywp_sound hS 400 hc rfl (fun x hx => xseek_mem (pc := e.1) x (by rw [hs]; exact hx)) h
def yS_0 : List (Nat × ySm) := []
theorem yS_ok_0 : ySOK yS_0 := ySOK_nil
/-- EarRoomsModel.thrown -/
def yr_8 (V : xF) (D : yD) : Int := (V 405 0)
set_option maxRecDepth 20000 in
theorem yt_8_0 {d : Nat} {V : xF} {D : yD} {Q : xRes → xF → yD → Prop}
    (h : Q (.inl (some (vi (V 405 0)))) V D) :
    RY d 8 0 [vr 405] [] V D Q := yatS yS_ok_0 (inl := []) (c := xk_8) (hd := []) (dk := []) (dv := []) (nb := []) rfl h
def yu_8 : ySm := fun args V D => match args with
  | [.inr (.inr a0)] => (match Nat.beq a0 405 with | true => some ([], vi (yr_8 V D)) | false => none)
  | _ => none
def yS_1 : List (Nat × ySm) := (8, yu_8) :: yS_0
theorem yS_ok_1 : ySOK yS_1 := by
  refine ySOK_cons ?_ yS_ok_0
  intro args V D gs v h hg d hl
  unfold yu_8 at h
  split at h
  · split at h
    · cases h
      have e0 := Nat.eq_of_beq_eq_true (by assumption)
      subst e0
      refine yt_8_0 ?_
      unfold yr_8
      grind
    · cases h
  · cases h
/-- EarRooms.fault -/
def yr_11 (V : xF) (D : yD) : Int := (V 70 1)
set_option maxRecDepth 20000 in
theorem yt_11_0 {d : Nat} {V : xF} {D : yD} {Q : xRes → xF → yD → Prop}
    (h : Q (.inl (some (vi (V 70 1)))) V D) :
    RY d 11 0 [vr 70] [] V D Q := yatS yS_ok_1 (inl := []) (c := xk_11) (hd := []) (dk := []) (dv := []) (nb := []) rfl h
def yu_11 : ySm := fun args V D => match args with
  | [.inr (.inr a0)] => (match Nat.beq a0 70 with | true => some ([], vi (yr_11 V D)) | false => none)
  | _ => none
def yS_2 : List (Nat × ySm) := (11, yu_11) :: yS_1
theorem yS_ok_2 : ySOK yS_2 := by
  refine ySOK_cons ?_ yS_ok_1
  intro args V D gs v h hg d hl
  unfold yu_11 at h
  split at h
  · split at h
    · cases h
      have e0 := Nat.eq_of_beq_eq_true (by assumption)
      subst e0
      refine yt_11_0 ?_
      unfold yr_11
      grind
    · cases h
  · cases h
/-- EarRooms$Tape.hasSpace -/
def yr_121 (V : xF) (D : yD) : Int := if (400 : Int) < (wr ((V 76 1) + 20)) then 0 else 1
set_option maxRecDepth 20000 in
theorem yt_121_0 {d : Nat} {V : xF} {D : yD} {Q : xRes → xF → yD → Prop}
    (h : ((400 : Int) < (wr ((V 76 1) + 20)) → Q (.inl (some (vi 0))) V D) ∧ ((wr ((V 76 1) + 20)) ≤ 400 → Q (.inl (some (vi 1))) V D)) :
    RY d 121 0 [vr 76] [] V D Q := yatS yS_ok_2 (inl := []) (c := xk_121) (hd := []) (dk := []) (dv := []) (nb := [1210010]) rfl h
def yu_121 : ySm := fun args V D => match args with
  | [.inr (.inr a0)] => (match Nat.beq a0 76 with | true => some ([], vi (yr_121 V D)) | false => none)
  | _ => none
def yS_3 : List (Nat × ySm) := (121, yu_121) :: yS_2
theorem yS_ok_3 : ySOK yS_3 := by
  refine ySOK_cons ?_ yS_ok_2
  intro args V D gs v h hg d hl
  unfold yu_121 at h
  split at h
  · split at h
    · cases h
      have e0 := Nat.eq_of_beq_eq_true (by assumption)
      subst e0
      refine yt_121_0 ?_
      unfold yr_121
      grind
    · cases h
  · cases h
/-- EarRoomsModel.isIn -/
def yr_124 (i0 : Int) (i1 : Int) (i2 : Int) (V : xF) (D : yD) : Int := if i0 < i1 then 0 else (if i2 < i0 then 0 else 1)
set_option maxRecDepth 20000 in
theorem yt_124_0 {d : Nat} {i0 i1 i2 : Int} {V : xF} {D : yD} {Q : xRes → xF → yD → Prop}
    (h : (i0 < i1 → Q (.inl (some (vi 0))) V D) ∧ (i1 ≤ i0 → ((i2 < i0 → Q (.inl (some (vi 0))) V D) ∧ (i0 ≤ i2 → Q (.inl (some (vi 1))) V D)))) :
    RY d 124 0 [vi i0, vi i1, vi i2] [] V D Q := yatS yS_ok_3 (inl := []) (c := xk_124) (hd := []) (dk := []) (dv := []) (nb := [1240002, 1240007]) rfl h
def yu_124 : ySm := fun args V D => match args with
  | [.inl i0, .inl i1, .inl i2] => some ([], vi (yr_124 i0 i1 i2 V D))
  | _ => none
def yS_4 : List (Nat × ySm) := (124, yu_124) :: yS_3
theorem yS_ok_4 : ySOK yS_4 := by
  refine ySOK_cons ?_ yS_ok_3
  intro args V D gs v h hg d hl
  unfold yu_124 at h
  split at h
  · cases h
    refine yt_124_0 ?_
    unfold yr_124
    grind
  · cases h
/-- EarRoomsModel.of -/
def yr_133 (i1 : Int) (i2 : Int) (V : xF) (D : yD) : Int := (V 406 ((wr ((wr ((16 : Int) + (wr ((7 : Int) * i1)))) + i2)).toNat))
def yg_133 (i1 : Int) (i2 : Int) (V : xF) (D : yD) : Prop := ((0 : Int) ≤ wr ((wr ((16 : Int) + (wr ((7 : Int) * i1)))) + i2) ∧ wr ((wr ((16 : Int) + (wr ((7 : Int) * i1)))) + i2) < (731 : Int))
set_option maxRecDepth 20000 in
theorem yt_133_0 {d : Nat} {i1 i2 : Int} {V : xF} {D : yD} {Q : xRes → xF → yD → Prop}
    (h : ((0 : Int) ≤ wr ((wr ((16 : Int) + (wr ((7 : Int) * i1)))) + i2) ∧ wr ((wr ((16 : Int) + (wr ((7 : Int) * i1)))) + i2) < (731 : Int)) ∧ Q (.inl (some (vi (V 406 ((wr ((wr ((16 : Int) + (wr ((7 : Int) * i1)))) + i2)).toNat))))) V D) :
    RY d 133 0 [vr 405, vi i1, vi i2] [] V D Q := yatS yS_ok_4 (inl := []) (c := xk_133) (hd := []) (dk := []) (dv := [1330013]) (nb := []) rfl h
def yu_133 : ySm := fun args V D => match args with
  | [.inr (.inr a0), .inl i1, .inl i2] => (match Nat.beq a0 405 with | true => some ([yg_133 i1 i2 V D], vi (yr_133 i1 i2 V D)) | false => none)
  | _ => none
def yS_5 : List (Nat × ySm) := (133, yu_133) :: yS_4
theorem yS_ok_5 : ySOK yS_5 := by
  refine ySOK_cons ?_ yS_ok_4
  intro args V D gs v h hg d hl
  unfold yu_133 at h
  split at h
  · split at h
    · cases h
      have e0 := Nat.eq_of_beq_eq_true (by assumption)
      subst e0
      refine yt_133_0 ?_
      simp only [xall, yg_133] at hg
      unfold yr_133
      grind
    · cases h
  · cases h
/-- EarRoomsModel.ofTenant -/
def yr_143 (i1 : Int) (i2 : Int) (V : xF) (D : yD) : Int := (V 406 ((wr ((wr ((51 : Int) + (wr ((3 : Int) * i1)))) + i2)).toNat))
def yg_143 (i1 : Int) (i2 : Int) (V : xF) (D : yD) : Prop := ((0 : Int) ≤ wr ((wr ((51 : Int) + (wr ((3 : Int) * i1)))) + i2) ∧ wr ((wr ((51 : Int) + (wr ((3 : Int) * i1)))) + i2) < (731 : Int))
set_option maxRecDepth 20000 in
theorem yt_143_0 {d : Nat} {i1 i2 : Int} {V : xF} {D : yD} {Q : xRes → xF → yD → Prop}
    (h : ((0 : Int) ≤ wr ((wr ((51 : Int) + (wr ((3 : Int) * i1)))) + i2) ∧ wr ((wr ((51 : Int) + (wr ((3 : Int) * i1)))) + i2) < (731 : Int)) ∧ Q (.inl (some (vi (V 406 ((wr ((wr ((51 : Int) + (wr ((3 : Int) * i1)))) + i2)).toNat))))) V D) :
    RY d 143 0 [vr 405, vi i1, vi i2] [] V D Q := yatS yS_ok_5 (inl := []) (c := xk_143) (hd := []) (dk := []) (dv := [1430012]) (nb := []) rfl h
def yu_143 : ySm := fun args V D => match args with
  | [.inr (.inr a0), .inl i1, .inl i2] => (match Nat.beq a0 405 with | true => some ([yg_143 i1 i2 V D], vi (yr_143 i1 i2 V D)) | false => none)
  | _ => none
def yS_6 : List (Nat × ySm) := (143, yu_143) :: yS_5
theorem yS_ok_6 : ySOK yS_6 := by
  refine ySOK_cons ?_ yS_ok_5
  intro args V D gs v h hg d hl
  unfold yu_143 at h
  split at h
  · split at h
    · cases h
      have e0 := Nat.eq_of_beq_eq_true (by assumption)
      subst e0
      refine yt_143_0 ?_
      simp only [xall, yg_143] at hg
      unfold yr_143
      grind
    · cases h
  · cases h
/-- EarRoomsModel.isAjar -/
def yr_152 (i1 : Int) (i2 : Int) (V : xF) (D : yD) : Int := if ((V 406 ((wr ((wr ((66 : Int) + (wr ((5 : Int) * i1)))) + i2)).toNat))) = 1 then 1 else 0
def yg_152 (i1 : Int) (i2 : Int) (V : xF) (D : yD) : Prop := ((0 : Int) ≤ wr ((wr ((66 : Int) + (wr ((5 : Int) * i1)))) + i2) ∧ wr ((wr ((66 : Int) + (wr ((5 : Int) * i1)))) + i2) < (731 : Int))
set_option maxRecDepth 20000 in
theorem yt_152_0 {d : Nat} {i1 i2 : Int} {V : xF} {D : yD} {Q : xRes → xF → yD → Prop}
    (h : ((0 : Int) ≤ wr ((wr ((66 : Int) + (wr ((5 : Int) * i1)))) + i2) ∧ wr ((wr ((66 : Int) + (wr ((5 : Int) * i1)))) + i2) < (731 : Int)) ∧ (((V 406 ((wr ((wr ((66 : Int) + (wr ((5 : Int) * i1)))) + i2)).toNat)) ≠ 1 → Q (.inl (some (vi 0))) V D) ∧ ((V 406 ((wr ((wr ((66 : Int) + (wr ((5 : Int) * i1)))) + i2)).toNat)) = 1 → Q (.inl (some (vi 1))) V D))) :
    RY d 152 0 [vr 405, vi i1, vi i2] [] V D Q := yatS yS_ok_6 (inl := []) (c := xk_152) (hd := []) (dk := []) (dv := [1520012]) (nb := [1520014]) rfl h
def yu_152 : ySm := fun args V D => match args with
  | [.inr (.inr a0), .inl i1, .inl i2] => (match Nat.beq a0 405 with | true => some ([yg_152 i1 i2 V D], vi (yr_152 i1 i2 V D)) | false => none)
  | _ => none
def yS_7 : List (Nat × ySm) := (152, yu_152) :: yS_6
theorem yS_ok_7 : ySOK yS_7 := by
  refine ySOK_cons ?_ yS_ok_6
  intro args V D gs v h hg d hl
  unfold yu_152 at h
  split at h
  · split at h
    · cases h
      have e0 := Nat.eq_of_beq_eq_true (by assumption)
      subst e0
      refine yt_152_0 ?_
      simp only [xall, yg_152] at hg
      unfold yr_152
      grind
    · cases h
  · cases h
/-- EarRoomsModel.stepX -/
def yr_162 (i0 : Int) (V : xF) (D : yD) : Int := if i0 = 0 then (((-1))) else (if i0 = 1 then 1 else 0)
set_option maxRecDepth 20000 in
theorem yt_162_0 {d : Nat} {i0 : Int} {V : xF} {D : yD} {Q : xRes → xF → yD → Prop}
    (h : (i0 ≠ 0 → ((i0 ≠ 1 → Q (.inl (some (vi 0))) V D) ∧ (i0 = 1 → Q (.inl (some (vi 1))) V D))) ∧ (i0 = 0 → Q (.inl (some (vi ((-1))))) V D)) :
    RY d 162 0 [vi i0] [] V D Q := yatS yS_ok_7 (inl := []) (c := xk_162) (hd := []) (dk := []) (dv := []) (nb := [1620001, 1620010]) rfl h
def yu_162 : ySm := fun args V D => match args with
  | [.inl i0] => some ([], vi (yr_162 i0 V D))
  | _ => none
def yS_8 : List (Nat × ySm) := (162, yu_162) :: yS_7
theorem yS_ok_8 : ySOK yS_8 := by
  refine ySOK_cons ?_ yS_ok_7
  intro args V D gs v h hg d hl
  unfold yu_162 at h
  split at h
  · cases h
    refine yt_162_0 ?_
    unfold yr_162
    grind
  · cases h
/-- EarRoomsModel.stepY -/
def yr_163 (i0 : Int) (V : xF) (D : yD) : Int := if i0 = 2 then (((-1))) else (if i0 = 3 then 1 else 0)
set_option maxRecDepth 20000 in
theorem yt_163_0 {d : Nat} {i0 : Int} {V : xF} {D : yD} {Q : xRes → xF → yD → Prop}
    (h : (i0 ≠ 2 → ((i0 ≠ 3 → Q (.inl (some (vi 0))) V D) ∧ (i0 = 3 → Q (.inl (some (vi 1))) V D))) ∧ (i0 = 2 → Q (.inl (some (vi ((-1))))) V D)) :
    RY d 163 0 [vi i0] [] V D Q := yatS yS_ok_8 (inl := []) (c := xk_163) (hd := []) (dk := []) (dv := []) (nb := [1630002, 1630011]) rfl h
def yu_163 : ySm := fun args V D => match args with
  | [.inl i0] => some ([], vi (yr_163 i0 V D))
  | _ => none
def yS_9 : List (Nat × ySm) := (163, yu_163) :: yS_8
theorem yS_ok_9 : ySOK yS_9 := by
  refine ySOK_cons ?_ yS_ok_8
  intro args V D gs v h hg d hl
  unfold yu_163 at h
  split at h
  · cases h
    refine yt_163_0 ?_
    unfold yr_163
    grind
  · cases h
/-- EarRoomsModel.lesser -/
def yr_169 (i0 : Int) (i1 : Int) (V : xF) (D : yD) : Int := if i0 < i1 then i0 else i1
set_option maxRecDepth 20000 in
theorem yt_169_0 {d : Nat} {i0 i1 : Int} {V : xF} {D : yD} {Q : xRes → xF → yD → Prop}
    (h : (i1 ≤ i0 → Q (.inl (some (vi i1))) V D) ∧ (i0 < i1 → Q (.inl (some (vi i0))) V D)) :
    RY d 169 0 [vi i0, vi i1] [] V D Q := yatS yS_ok_9 (inl := []) (c := xk_169) (hd := []) (dk := []) (dv := []) (nb := [1690002]) rfl h
def yu_169 : ySm := fun args V D => match args with
  | [.inl i0, .inl i1] => some ([], vi (yr_169 i0 i1 V D))
  | _ => none
def yS_10 : List (Nat × ySm) := (169, yu_169) :: yS_9
theorem yS_ok_10 : ySOK yS_10 := by
  refine ySOK_cons ?_ yS_ok_9
  intro args V D gs v h hg d hl
  unfold yu_169 at h
  split at h
  · cases h
    refine yt_169_0 ?_
    unfold yr_169
    grind
  · cases h
/-- EarRoomsModel.greater -/
def yr_185 (i0 : Int) (i1 : Int) (V : xF) (D : yD) : Int := if i1 < i0 then i0 else i1
set_option maxRecDepth 20000 in
theorem yt_185_0 {d : Nat} {i0 i1 : Int} {V : xF} {D : yD} {Q : xRes → xF → yD → Prop}
    (h : (i0 ≤ i1 → Q (.inl (some (vi i1))) V D) ∧ (i1 < i0 → Q (.inl (some (vi i0))) V D)) :
    RY d 185 0 [vi i0, vi i1] [] V D Q := yatS yS_ok_10 (inl := []) (c := xk_185) (hd := []) (dk := []) (dv := []) (nb := [1850002]) rfl h
def yu_185 : ySm := fun args V D => match args with
  | [.inl i0, .inl i1] => some ([], vi (yr_185 i0 i1 V D))
  | _ => none
def yS_11 : List (Nat × ySm) := (185, yu_185) :: yS_10
theorem yS_ok_11 : ySOK yS_11 := by
  refine ySOK_cons ?_ yS_ok_10
  intro args V D gs v h hg d hl
  unfold yu_185 at h
  split at h
  · cases h
    refine yt_185_0 ?_
    unfold yr_185
    grind
  · cases h
/-- EarRoomsModel.isOf -/
def yr_198 (i0 : Int) (i1 : Int) (V : xF) (D : yD) : Int := if ((xand (xshr i0 i1) 1)) = 1 then 1 else 0
set_option maxRecDepth 20000 in
theorem yt_198_0 {d : Nat} {i0 i1 : Int} {V : xF} {D : yD} {Q : xRes → xF → yD → Prop}
    (h : ((xand (xshr i0 i1) 1) ≠ 1 → Q (.inl (some (vi 0))) V D) ∧ ((xand (xshr i0 i1) 1) = 1 → Q (.inl (some (vi 1))) V D)) :
    RY d 198 0 [vi i0, vi i1] [] V D Q := yatS yS_ok_11 (inl := []) (c := xk_198) (hd := []) (dk := []) (dv := []) (nb := [1980006]) rfl h
def yu_198 : ySm := fun args V D => match args with
  | [.inl i0, .inl i1] => some ([], vi (yr_198 i0 i1 V D))
  | _ => none
def yS_12 : List (Nat × ySm) := (198, yu_198) :: yS_11
theorem yS_ok_12 : ySOK yS_12 := by
  refine ySOK_cons ?_ yS_ok_11
  intro args V D gs v h hg d hl
  unfold yu_198 at h
  split at h
  · cases h
    refine yt_198_0 ?_
    unfold yr_198
    grind
  · cases h
/-- EarRoomsModel.logged -/
def yr_222 (i1 : Int) (i2 : Int) (V : xF) (D : yD) : Int := (V 406 ((wr ((wr ((91 : Int) + (wr ((4 : Int) * i1)))) + i2)).toNat))
def yg_222 (i1 : Int) (i2 : Int) (V : xF) (D : yD) : Prop := ((0 : Int) ≤ wr ((wr ((91 : Int) + (wr ((4 : Int) * i1)))) + i2) ∧ wr ((wr ((91 : Int) + (wr ((4 : Int) * i1)))) + i2) < (731 : Int))
set_option maxRecDepth 20000 in
theorem yt_222_0 {d : Nat} {i1 i2 : Int} {V : xF} {D : yD} {Q : xRes → xF → yD → Prop}
    (h : ((0 : Int) ≤ wr ((wr ((91 : Int) + (wr ((4 : Int) * i1)))) + i2) ∧ wr ((wr ((91 : Int) + (wr ((4 : Int) * i1)))) + i2) < (731 : Int)) ∧ Q (.inl (some (vi (V 406 ((wr ((wr ((91 : Int) + (wr ((4 : Int) * i1)))) + i2)).toNat))))) V D) :
    RY d 222 0 [vr 405, vi i1, vi i2] [] V D Q := yatS yS_ok_12 (inl := []) (c := xk_222) (hd := []) (dk := []) (dv := [2220012]) (nb := []) rfl h
def yu_222 : ySm := fun args V D => match args with
  | [.inr (.inr a0), .inl i1, .inl i2] => (match Nat.beq a0 405 with | true => some ([yg_222 i1 i2 V D], vi (yr_222 i1 i2 V D)) | false => none)
  | _ => none
def yS_13 : List (Nat × ySm) := (222, yu_222) :: yS_12
theorem yS_ok_13 : ySOK yS_13 := by
  refine ySOK_cons ?_ yS_ok_12
  intro args V D gs v h hg d hl
  unfold yu_222 at h
  split at h
  · split at h
    · cases h
      have e0 := Nat.eq_of_beq_eq_true (by assumption)
      subst e0
      refine yt_222_0 ?_
      simp only [xall, yg_222] at hg
      unfold yr_222
      grind
    · cases h
  · cases h
/-- EarRooms$Tape.begin -/
def yr_227 (V : xF) (D : yD) : Int := (V 79 ((V 76 5).toNat))
def yg_227 (V : xF) (D : yD) : Prop := ((0 : Int) ≤ V 76 5 ∧ V 76 5 < (401 : Int))
set_option maxRecDepth 20000 in
theorem yt_227_0 {d : Nat} {V : xF} {D : yD} {Q : xRes → xF → yD → Prop}
    (h : ((0 : Int) ≤ V 76 5 ∧ V 76 5 < (401 : Int)) ∧ Q (.inl (some (vi (V 79 ((V 76 5).toNat))))) V D) :
    RY d 227 0 [vr 76] [] V D Q := yatS yS_ok_13 (inl := []) (c := xk_227) (hd := []) (dk := []) (dv := [2270008]) (nb := []) rfl h
def yu_227 : ySm := fun args V D => match args with
  | [.inr (.inr a0)] => (match Nat.beq a0 76 with | true => some ([yg_227 V D], vi (yr_227 V D)) | false => none)
  | _ => none
def yS_14 : List (Nat × ySm) := (227, yu_227) :: yS_13
theorem yS_ok_14 : ySOK yS_14 := by
  refine ySOK_cons ?_ yS_ok_13
  intro args V D gs v h hg d hl
  unfold yu_227 at h
  split at h
  · split at h
    · cases h
      have e0 := Nat.eq_of_beq_eq_true (by assumption)
      subst e0
      refine yt_227_0 ?_
      simp only [xall, yg_227] at hg
      unfold yr_227
      grind
    · cases h
  · cases h
/-- EarRooms$State.hasDoor -/
def yr_251_81 (i1 : Int) (i2 : Int) (V : xF) (D : yD) : Int := if ((xand (xshr (V 86 i1.toNat) i2) 1)) = 1 then 1 else 0
def yg_251_81 (i1 : Int) (i2 : Int) (V : xF) (D : yD) : Prop := ((0 : Int) ≤ i1 ∧ i1 < (5 : Int))
set_option maxRecDepth 20000 in
theorem yt_251_0_81 {d : Nat} {i1 i2 : Int} {V : xF} {D : yD} {Q : xRes → xF → yD → Prop}
    (h : ((0 : Int) ≤ i1 ∧ i1 < (5 : Int)) ∧ (((xand (xshr (V 86 i1.toNat) i2) 1) ≠ 1 → Q (.inl (some (vi 0))) V D) ∧ ((xand (xshr (V 86 i1.toNat) i2) 1) = 1 → Q (.inl (some (vi 1))) V D))) :
    RY d 251 0 [vr 81, vi i1, vi i2] [] V D Q := yatS yS_ok_14 (inl := []) (c := xk_251) (hd := []) (dk := []) (dv := [2510005]) (nb := [2510011]) rfl h
def yu_251 : ySm := fun args V D => match args with
  | [.inr (.inr a0), .inl i1, .inl i2] => (match Nat.beq a0 81 with | true => some ([yg_251_81 i1 i2 V D], vi (yr_251_81 i1 i2 V D)) | false => none)
  | _ => none
def yS_15 : List (Nat × ySm) := (251, yu_251) :: yS_14
theorem yS_ok_15 : ySOK yS_15 := by
  refine ySOK_cons ?_ yS_ok_14
  intro args V D gs v h hg d hl
  unfold yu_251 at h
  split at h
  · split at h
    · cases h
      have e0 := Nat.eq_of_beq_eq_true (by assumption)
      subst e0
      refine yt_251_0_81 ?_
      simp only [xall, yg_251_81] at hg
      unfold yr_251_81
      grind
    · cases h
  · cases h
/-- java/lang/Integer.bitCount -/
def yr_258 (i0 : Int) (V : xF) (D : yD) : Int := (xand (wr ((wr ((xand (wr ((wr ((xand (wr (i0 - (xand (xushr i0 1) 1431655765))) 858993459) + (xand (xushr (wr (i0 - (xand (xushr i0 1) 1431655765))) 2) 858993459))) + (xushr (wr ((xand (wr (i0 - (xand (xushr i0 1) 1431655765))) 858993459) + (xand (xushr (wr (i0 - (xand (xushr i0 1) 1431655765))) 2) 858993459))) 4))) 252645135) + (xushr (xand (wr ((wr ((xand (wr (i0 - (xand (xushr i0 1) 1431655765))) 858993459) + (xand (xushr (wr (i0 - (xand (xushr i0 1) 1431655765))) 2) 858993459))) + (xushr (wr ((xand (wr (i0 - (xand (xushr i0 1) 1431655765))) 858993459) + (xand (xushr (wr (i0 - (xand (xushr i0 1) 1431655765))) 2) 858993459))) 4))) 252645135) 8))) + (xushr (wr ((xand (wr ((wr ((xand (wr (i0 - (xand (xushr i0 1) 1431655765))) 858993459) + (xand (xushr (wr (i0 - (xand (xushr i0 1) 1431655765))) 2) 858993459))) + (xushr (wr ((xand (wr (i0 - (xand (xushr i0 1) 1431655765))) 858993459) + (xand (xushr (wr (i0 - (xand (xushr i0 1) 1431655765))) 2) 858993459))) 4))) 252645135) + (xushr (xand (wr ((wr ((xand (wr (i0 - (xand (xushr i0 1) 1431655765))) 858993459) + (xand (xushr (wr (i0 - (xand (xushr i0 1) 1431655765))) 2) 858993459))) + (xushr (wr ((xand (wr (i0 - (xand (xushr i0 1) 1431655765))) 858993459) + (xand (xushr (wr (i0 - (xand (xushr i0 1) 1431655765))) 2) 858993459))) 4))) 252645135) 8))) 16))) 63)
set_option maxRecDepth 20000 in
theorem yt_258_0 {d : Nat} {i0 : Int} {V : xF} {D : yD} {Q : xRes → xF → yD → Prop}
    (h : Q (.inl (some (vi (xand (wr ((wr ((xand (wr ((wr ((xand (wr (i0 - (xand (xushr i0 1) 1431655765))) 858993459) + (xand (xushr (wr (i0 - (xand (xushr i0 1) 1431655765))) 2) 858993459))) + (xushr (wr ((xand (wr (i0 - (xand (xushr i0 1) 1431655765))) 858993459) + (xand (xushr (wr (i0 - (xand (xushr i0 1) 1431655765))) 2) 858993459))) 4))) 252645135) + (xushr (xand (wr ((wr ((xand (wr (i0 - (xand (xushr i0 1) 1431655765))) 858993459) + (xand (xushr (wr (i0 - (xand (xushr i0 1) 1431655765))) 2) 858993459))) + (xushr (wr ((xand (wr (i0 - (xand (xushr i0 1) 1431655765))) 858993459) + (xand (xushr (wr (i0 - (xand (xushr i0 1) 1431655765))) 2) 858993459))) 4))) 252645135) 8))) + (xushr (wr ((xand (wr ((wr ((xand (wr (i0 - (xand (xushr i0 1) 1431655765))) 858993459) + (xand (xushr (wr (i0 - (xand (xushr i0 1) 1431655765))) 2) 858993459))) + (xushr (wr ((xand (wr (i0 - (xand (xushr i0 1) 1431655765))) 858993459) + (xand (xushr (wr (i0 - (xand (xushr i0 1) 1431655765))) 2) 858993459))) 4))) 252645135) + (xushr (xand (wr ((wr ((xand (wr (i0 - (xand (xushr i0 1) 1431655765))) 858993459) + (xand (xushr (wr (i0 - (xand (xushr i0 1) 1431655765))) 2) 858993459))) + (xushr (wr ((xand (wr (i0 - (xand (xushr i0 1) 1431655765))) 858993459) + (xand (xushr (wr (i0 - (xand (xushr i0 1) 1431655765))) 2) 858993459))) 4))) 252645135) 8))) 16))) 63)))) V D) :
    RY d 258 0 [vi i0] [] V D Q := yatS yS_ok_15 (inl := []) (c := xk_258) (hd := []) (dk := []) (dv := []) (nb := []) rfl h
def yu_258 : ySm := fun args V D => match args with
  | [.inl i0] => some ([], vi (yr_258 i0 V D))
  | _ => none
def yS_16 : List (Nat × ySm) := (258, yu_258) :: yS_15
theorem yS_ok_16 : ySOK yS_16 := by
  refine ySOK_cons ?_ yS_ok_15
  intro args V D gs v h hg d hl
  unfold yu_258 at h
  split at h
  · cases h
    refine yt_258_0 ?_
    unfold yr_258
    grind
  · cases h
/-- EarRooms$State.placeOf -/
def yr_265 (i0 : Int) (i1 : Int) (V : xF) (D : yD) : Int := (wr ((wr ((16 : Int) * i0)) + i1))
set_option maxRecDepth 20000 in
theorem yt_265_0 {d : Nat} {i0 i1 : Int} {V : xF} {D : yD} {Q : xRes → xF → yD → Prop}
    (h : Q (.inl (some (vi (wr ((wr ((16 : Int) * i0)) + i1))))) V D) :
    RY d 265 0 [vi i0, vi i1] [] V D Q := yatS yS_ok_16 (inl := []) (c := xk_265) (hd := []) (dk := []) (dv := []) (nb := []) rfl h
def yu_265 : ySm := fun args V D => match args with
  | [.inl i0, .inl i1] => some ([], vi (yr_265 i0 i1 V D))
  | _ => none
def yS_17 : List (Nat × ySm) := (265, yu_265) :: yS_16
theorem yS_ok_17 : ySOK yS_17 := by
  refine ySOK_cons ?_ yS_ok_16
  intro args V D gs v h hg d hl
  unfold yu_265 at h
  split at h
  · cases h
    refine yt_265_0 ?_
    unfold yr_265
    grind
  · cases h
/-- java/lang/Math.abs -/
def yr_288 (i0 : Int) (V : xF) (D : yD) : Int := if i0 < 0 then ((wr (-i0))) else i0
set_option maxRecDepth 20000 in
theorem yt_288_0 {d : Nat} {i0 : Int} {V : xF} {D : yD} {Q : xRes → xF → yD → Prop}
    (h : ((0 : Int) ≤ i0 → Q (.inl (some (vi i0))) V D) ∧ (i0 < 0 → Q (.inl (some (vi (wr (-i0))))) V D)) :
    RY d 288 0 [vi i0] [] V D Q := yatS yS_ok_17 (inl := []) (c := xk_288) (hd := []) (dk := []) (dv := []) (nb := [2880001]) rfl h
def yu_288 : ySm := fun args V D => match args with
  | [.inl i0] => some ([], vi (yr_288 i0 V D))
  | _ => none
def yS_18 : List (Nat × ySm) := (288, yu_288) :: yS_17
theorem yS_ok_18 : ySOK yS_18 := by
  refine ySOK_cons ?_ yS_ok_17
  intro args V D gs v h hg d hl
  unfold yu_288 at h
  split at h
  · cases h
    refine yt_288_0 ?_
    unfold yr_288
    grind
  · cases h
/-- java/lang/Math.min -/
def yr_291 (i0 : Int) (i1 : Int) (V : xF) (D : yD) : Int := if i1 < i0 then i1 else i0
set_option maxRecDepth 20000 in
theorem yt_291_0 {d : Nat} {i0 i1 : Int} {V : xF} {D : yD} {Q : xRes → xF → yD → Prop}
    (h : (i1 < i0 → Q (.inl (some (vi i1))) V D) ∧ (i0 ≤ i1 → Q (.inl (some (vi i0))) V D)) :
    RY d 291 0 [vi i0, vi i1] [] V D Q := yatS yS_ok_18 (inl := []) (c := xk_291) (hd := []) (dk := []) (dv := []) (nb := [2910002]) rfl h
def yu_291 : ySm := fun args V D => match args with
  | [.inl i0, .inl i1] => some ([], vi (yr_291 i0 i1 V D))
  | _ => none
def yS_19 : List (Nat × ySm) := (291, yu_291) :: yS_18
theorem yS_ok_19 : ySOK yS_19 := by
  refine ySOK_cons ?_ yS_ok_18
  intro args V D gs v h hg d hl
  unfold yu_291 at h
  split at h
  · cases h
    refine yt_291_0 ?_
    unfold yr_291
    grind
  · cases h
/-- java/lang/Math.max -/
def yr_292 (i0 : Int) (i1 : Int) (V : xF) (D : yD) : Int := if i0 < i1 then i1 else i0
set_option maxRecDepth 20000 in
theorem yt_292_0 {d : Nat} {i0 i1 : Int} {V : xF} {D : yD} {Q : xRes → xF → yD → Prop}
    (h : (i0 < i1 → Q (.inl (some (vi i1))) V D) ∧ (i1 ≤ i0 → Q (.inl (some (vi i0))) V D)) :
    RY d 292 0 [vi i0, vi i1] [] V D Q := yatS yS_ok_19 (inl := []) (c := xk_292) (hd := []) (dk := []) (dv := []) (nb := [2920002]) rfl h
def yu_292 : ySm := fun args V D => match args with
  | [.inl i0, .inl i1] => some ([], vi (yr_292 i0 i1 V D))
  | _ => none
def yS_20 : List (Nat × ySm) := (292, yu_292) :: yS_19
theorem yS_ok_20 : ySOK yS_20 := by
  refine ySOK_cons ?_ yS_ok_19
  intro args V D gs v h hg d hl
  unfold yu_292 at h
  split at h
  · cases h
    refine yt_292_0 ?_
    unfold yr_292
    grind
  · cases h
/-- EarRooms$Log.cell -/
def yr_295 (i1 : Int) (i2 : Int) (V : xF) (D : yD) : Int := if i1 < 0 then (((-1))) else (if i1 < (V 90 1) then ((V 91 ((wr ((wr ((4 : Int) * i1)) + i2)).toNat))) else (((-1))))
def yg_295 (i1 : Int) (i2 : Int) (V : xF) (D : yD) : Prop := ((0 : Int) ≤ i1 → (i1 < (V 90 1) → ((0 : Int) ≤ wr ((wr ((4 : Int) * i1)) + i2) ∧ wr ((wr ((4 : Int) * i1)) + i2) < (240 : Int))))
set_option maxRecDepth 20000 in
theorem yt_295_0 {d : Nat} {i1 i2 : Int} {V : xF} {D : yD} {Q : xRes → xF → yD → Prop}
    (h : (i1 < 0 → Q (.inl (some (vi ((-1))))) V D) ∧ ((0 : Int) ≤ i1 → ((i1 < (V 90 1) → (((0 : Int) ≤ wr ((wr ((4 : Int) * i1)) + i2) ∧ wr ((wr ((4 : Int) * i1)) + i2) < (240 : Int)) ∧ Q (.inl (some (vi (V 91 ((wr ((wr ((4 : Int) * i1)) + i2)).toNat))))) V D)) ∧ ((V 90 1) ≤ i1 → Q (.inl (some (vi ((-1))))) V D)))) :
    RY d 295 0 [vr 90, vi i1, vi i2] [] V D Q := yatS yS_ok_20 (inl := []) (c := xk_295) (hd := []) (dk := []) (dv := [2950025]) (nb := [2950001, 2950009]) rfl h
def yu_295 : ySm := fun args V D => match args with
  | [.inr (.inr a0), .inl i1, .inl i2] => (match Nat.beq a0 90 with | true => some ([yg_295 i1 i2 V D], vi (yr_295 i1 i2 V D)) | false => none)
  | _ => none
def yS_21 : List (Nat × ySm) := (295, yu_295) :: yS_20
theorem yS_ok_21 : ySOK yS_21 := by
  refine ySOK_cons ?_ yS_ok_20
  intro args V D gs v h hg d hl
  unfold yu_295 at h
  split at h
  · split at h
    · cases h
      have e0 := Nat.eq_of_beq_eq_true (by assumption)
      subst e0
      refine yt_295_0 ?_
      simp only [xall, yg_295] at hg
      unfold yr_295
      grind
    · cases h
  · cases h
/-- EarRooms$Tape.isEnd -/
def yr_298 (V : xF) (D : yD) : Int := if ((V 78 ((V 76 5).toNat))) = 3 then 1 else 0
def yg_298 (V : xF) (D : yD) : Prop := ((0 : Int) ≤ V 76 5 ∧ V 76 5 < (401 : Int))
set_option maxRecDepth 20000 in
theorem yt_298_0 {d : Nat} {V : xF} {D : yD} {Q : xRes → xF → yD → Prop}
    (h : ((0 : Int) ≤ V 76 5 ∧ V 76 5 < (401 : Int)) ∧ (((V 78 ((V 76 5).toNat)) ≠ 3 → Q (.inl (some (vi 0))) V D) ∧ ((V 78 ((V 76 5).toNat)) = 3 → Q (.inl (some (vi 1))) V D))) :
    RY d 298 0 [vr 76] [] V D Q := yatS yS_ok_21 (inl := []) (c := xk_298) (hd := []) (dk := []) (dv := [2980008]) (nb := [2980010]) rfl h
def yu_298 : ySm := fun args V D => match args with
  | [.inr (.inr a0)] => (match Nat.beq a0 76 with | true => some ([yg_298 V D], vi (yr_298 V D)) | false => none)
  | _ => none
def yS_22 : List (Nat × ySm) := (298, yu_298) :: yS_21
theorem yS_ok_22 : ySOK yS_22 := by
  refine ySOK_cons ?_ yS_ok_21
  intro args V D gs v h hg d hl
  unfold yu_298 at h
  split at h
  · split at h
    · cases h
      have e0 := Nat.eq_of_beq_eq_true (by assumption)
      subst e0
      refine yt_298_0 ?_
      simp only [xall, yg_298] at hg
      unfold yr_298
      grind
    · cases h
  · cases h
/-- EarRoomsModel.letter -/
def yr_301 (i1 : Int) (V : xF) (D : yD) : Int := if ((V 405 9)) = ((-1)) then ((V 410 i1.toNat)) else ((V 406 ((wr ((V 405 9) + i1)).toNat)))
def yg_301 (i1 : Int) (V : xF) (D : yD) : Prop := ((V 405 9) ≠ ((-1)) → ((0 : Int) ≤ wr ((V 405 9) + i1) ∧ wr ((V 405 9) + i1) < (731 : Int))) ∧ ((V 405 9) = ((-1)) → ((0 : Int) ≤ i1 ∧ i1 < (400 : Int)))
set_option maxRecDepth 20000 in
theorem yt_301_0 {d : Nat} {i1 : Int} {V : xF} {D : yD} {Q : xRes → xF → yD → Prop}
    (h : ((V 405 9) ≠ ((-1)) → (((0 : Int) ≤ wr ((V 405 9) + i1) ∧ wr ((V 405 9) + i1) < (731 : Int)) ∧ Q (.inl (some (vi (V 406 ((wr ((V 405 9) + i1)).toNat))))) V D)) ∧ ((V 405 9) = ((-1)) → (((0 : Int) ≤ i1 ∧ i1 < (400 : Int)) ∧ Q (.inl (some (vi (V 410 i1.toNat)))) V D))) :
    RY d 301 0 [vr 405, vi i1] [] V D Q := yatS yS_ok_22 (inl := []) (c := xk_301) (hd := []) (dk := []) (dv := [3010013, 3010027]) (nb := [3010005]) rfl h
def yu_301 : ySm := fun args V D => match args with
  | [.inr (.inr a0), .inl i1] => (match Nat.beq a0 405 with | true => some ([yg_301 i1 V D], vi (yr_301 i1 V D)) | false => none)
  | _ => none
def yS_23 : List (Nat × ySm) := (301, yu_301) :: yS_22
theorem yS_ok_23 : ySOK yS_23 := by
  refine ySOK_cons ?_ yS_ok_22
  intro args V D gs v h hg d hl
  unfold yu_301 at h
  split at h
  · split at h
    · cases h
      have e0 := Nat.eq_of_beq_eq_true (by assumption)
      subst e0
      refine yt_301_0 ?_
      simp only [xall, yg_301] at hg
      unfold yr_301
      grind
    · cases h
  · cases h
/-- EarRoomsModel.off -/
def yr_322 (i0 : Int) (i1 : Int) (i2 : Int) (i3 : Int) (V : xF) (D : yD) : Int := if i3 = 0 then ((wr (i0 * i1))) else ((wr ((wr ((wr (i0 + 1)) * i1)) - (wr ((2 : Int) * i2)))))
set_option maxRecDepth 20000 in
theorem yt_322_0 {d : Nat} {i0 i1 i2 i3 : Int} {V : xF} {D : yD} {Q : xRes → xF → yD → Prop}
    (h : (i3 = 0 → Q (.inl (some (vi (wr (i0 * i1))))) V D) ∧ (i3 ≠ 0 → Q (.inl (some (vi (wr ((wr ((wr (i0 + 1)) * i1)) - (wr ((2 : Int) * i2))))))) V D)) :
    RY d 322 0 [vi i0, vi i1, vi i2, vi i3] [] V D Q := yatS yS_ok_23 (inl := []) (c := xk_322) (hd := []) (dk := []) (dv := []) (nb := [3220001]) rfl h
def yu_322 : ySm := fun args V D => match args with
  | [.inl i0, .inl i1, .inl i2, .inl i3] => some ([], vi (yr_322 i0 i1 i2 i3 V D))
  | _ => none
def yS_24 : List (Nat × ySm) := (322, yu_322) :: yS_23
theorem yS_ok_24 : ySOK yS_24 := by
  refine ySOK_cons ?_ yS_ok_23
  intro args V D gs v h hg d hl
  unfold yu_322 at h
  split at h
  · cases h
    refine yt_322_0 ?_
    unfold yr_322
    grind
  · cases h
/-- EarRooms$State.isPlace -/
def yr_328_81 (i1 : Int) (i2 : Int) (i3 : Int) (V : xF) (D : yD) : Int := if i2 < 1 then 0 else (if i2 < (V 82 i1.toNat) then (if i3 < 1 then 0 else (if i3 < (V 83 i1.toNat) then 1 else 0)) else 0)
def yg_328_81 (i1 : Int) (i2 : Int) (i3 : Int) (V : xF) (D : yD) : Prop := ((1 : Int) ≤ i2 → (((0 : Int) ≤ i1 ∧ i1 < (5 : Int)) ∧ (i2 < (V 82 i1.toNat) → ((1 : Int) ≤ i3 → ((0 : Int) ≤ i1 ∧ i1 < (5 : Int))))))
set_option maxRecDepth 20000 in
theorem yt_328_0_81 {d : Nat} {i1 i2 i3 : Int} {V : xF} {D : yD} {Q : xRes → xF → yD → Prop}
    (h : (i2 < 1 → Q (.inl (some (vi 0))) V D) ∧ ((1 : Int) ≤ i2 → (((0 : Int) ≤ i1 ∧ i1 < (5 : Int)) ∧ (((V 82 i1.toNat) ≤ i2 → Q (.inl (some (vi 0))) V D) ∧ (i2 < (V 82 i1.toNat) → ((i3 < 1 → Q (.inl (some (vi 0))) V D) ∧ ((1 : Int) ≤ i3 → (((0 : Int) ≤ i1 ∧ i1 < (5 : Int)) ∧ (((V 83 i1.toNat) ≤ i3 → Q (.inl (some (vi 0))) V D) ∧ (i3 < (V 83 i1.toNat) → Q (.inl (some (vi 1))) V D)))))))))) :
    RY d 328 0 [vr 81, vi i1, vi i2, vi i3] [] V D Q := yatS yS_ok_24 (inl := []) (c := xk_328) (hd := []) (dk := []) (dv := [3280011, 3280026]) (nb := [3280002, 3280012, 3280017, 3280027]) rfl h
def yu_328 : ySm := fun args V D => match args with
  | [.inr (.inr a0), .inl i1, .inl i2, .inl i3] => (match Nat.beq a0 81 with | true => some ([yg_328_81 i1 i2 i3 V D], vi (yr_328_81 i1 i2 i3 V D)) | false => none)
  | _ => none
def yS_25 : List (Nat × ySm) := (328, yu_328) :: yS_24
theorem yS_ok_25 : ySOK yS_25 := by
  refine ySOK_cons ?_ yS_ok_24
  intro args V D gs v h hg d hl
  unfold yu_328 at h
  split at h
  · split at h
    · cases h
      have e0 := Nat.eq_of_beq_eq_true (by assumption)
      subst e0
      refine yt_328_0_81 ?_
      simp only [xall, yg_328_81] at hg
      unfold yr_328_81
      grind
    · cases h
  · cases h
/-- java/lang/Integer.compare -/
def yr_339 (i0 : Int) (i1 : Int) (V : xF) (D : yD) : Int := if i0 < i1 then (((-1))) else (if i0 = i1 then 0 else 1)
set_option maxRecDepth 20000 in
theorem yt_339_0 {d : Nat} {i0 i1 : Int} {V : xF} {D : yD} {Q : xRes → xF → yD → Prop}
    (h : (i1 ≤ i0 → ((i0 ≠ i1 → Q (.inl (some (vi 1))) V D) ∧ (i0 = i1 → Q (.inl (some (vi 0))) V D))) ∧ (i0 < i1 → Q (.inl (some (vi ((-1))))) V D)) :
    RY d 339 0 [vi i0, vi i1] [] V D Q := yatS yS_ok_25 (inl := []) (c := xk_339) (hd := []) (dk := []) (dv := []) (nb := [3390002, 3390011]) rfl h
def yu_339 : ySm := fun args V D => match args with
  | [.inl i0, .inl i1] => some ([], vi (yr_339 i0 i1 V D))
  | _ => none
def yS_26 : List (Nat × ySm) := (339, yu_339) :: yS_25
theorem yS_ok_26 : ySOK yS_26 := by
  refine ySOK_cons ?_ yS_ok_25
  intro args V D gs v h hg d hl
  unfold yu_339 at h
  split at h
  · cases h
    refine yt_339_0 ?_
    unfold yr_339
    grind
  · cases h
/-- EarRooms$Lettings.gain -/
def yr_340 (i0 : Int) (i1 : Int) (i2 : Int) (i3 : Int) (V : xF) (D : yD) : Int := if i0 = 1 then (if i1 = 1 then (((-1))) else 0) else (if i1 = 1 then ((wr (i2.tdiv 2))) else (if (0 : Int) < i3 then ((wr (i2 - 8))) else (((-2)))))
set_option maxRecDepth 20000 in
theorem yt_340_0 {d : Nat} {i0 i1 i2 i3 : Int} {V : xF} {D : yD} {Q : xRes → xF → yD → Prop}
    (h : (i0 ≠ 1 → ((i1 ≠ 1 → ((i3 ≤ 0 → Q (.inl (some (vi ((-2))))) V D) ∧ ((0 : Int) < i3 → Q (.inl (some (vi (wr (i2 - 8))))) V D))) ∧ (i1 = 1 → Q (.inl (some (vi (wr (i2.tdiv 2))))) V D))) ∧ (i0 = 1 → ((i1 ≠ 1 → Q (.inl (some (vi 0))) V D) ∧ (i1 = 1 → Q (.inl (some (vi ((-1))))) V D)))) :
    RY d 340 0 [vi i0, vi i1, vi i2, vi i3] [] V D Q := yatS yS_ok_26 (inl := []) (c := xk_340) (hd := []) (dk := []) (dv := []) (nb := [3400002, 3400007, 3400018, 3400026]) rfl h
def yu_340 : ySm := fun args V D => match args with
  | [.inl i0, .inl i1, .inl i2, .inl i3] => some ([], vi (yr_340 i0 i1 i2 i3 V D))
  | _ => none
def yS_27 : List (Nat × ySm) := (340, yu_340) :: yS_26
theorem yS_ok_27 : ySOK yS_27 := by
  refine ySOK_cons ?_ yS_ok_26
  intro args V D gs v h hg d hl
  unfold yu_340 at h
  split at h
  · cases h
    refine yt_340_0 ?_
    unfold yr_340
    grind
  · cases h
/-- java/lang/Math.max -/
def yr_342 (l0 : Int) (l1 : Int) (V : xF) (D : yD) : Int := if ((xcmp l0 l1)) < 0 then l1 else l0
set_option maxRecDepth 20000 in
theorem yt_342_0 {d : Nat} {l0 l2 : Int} {V : xF} {D : yD} {Q : xRes → xF → yD → Prop}
    (h : ((xcmp l0 l2) < 0 → Q (.inl (some (vl l2))) V D) ∧ ((0 : Int) ≤ (xcmp l0 l2) → Q (.inl (some (vl l0))) V D)) :
    RY d 342 0 [vl l0, vr 0, vl l2, vr 0] [] V D Q := yatS yS_ok_27 (inl := []) (c := xk_342) (hd := []) (dk := []) (dv := []) (nb := [3420003]) rfl h
def yu_342 : ySm := fun args V D => match args with
  | [.inr (.inl l0), .inr (.inl l1)] => some ([], vl (yr_342 l0 l1 V D))
  | _ => none
def yS_28 : List (Nat × ySm) := (342, yu_342) :: yS_27
theorem yS_ok_28 : ySOK yS_28 := by
  refine ySOK_cons ?_ yS_ok_27
  intro args V D gs v h hg d hl
  unfold yu_342 at h
  split at h
  · cases h
    refine yt_342_0 ?_
    unfold yr_342
    grind
  · cases h
/-- EarRooms$Sound.path -/
def yr_343 (i0 : Int) (i1 : Int) (i2 : Int) (V : xF) (D : yD) : Int := if ((i0.tmod 2)) = 0 then ((wr (i0 * i1))) else ((wr ((wr ((wr (i0 + 1)) * i1)) - (wr ((2 : Int) * i2)))))
set_option maxRecDepth 20000 in
theorem yt_343_0 {d : Nat} {i0 i1 i2 : Int} {V : xF} {D : yD} {Q : xRes → xF → yD → Prop}
    (h : ((i0.tmod 2) ≠ 0 → Q (.inl (some (vi (wr ((wr ((wr (i0 + 1)) * i1)) - (wr ((2 : Int) * i2))))))) V D) ∧ ((i0.tmod 2) = 0 → Q (.inl (some (vi (wr (i0 * i1))))) V D)) :
    RY d 343 0 [vi i0, vi i1, vi i2] [] V D Q := yatS yS_ok_28 (inl := []) (c := xk_343) (hd := []) (dk := []) (dv := []) (nb := [3430003]) rfl h
def yu_343 : ySm := fun args V D => match args with
  | [.inl i0, .inl i1, .inl i2] => some ([], vi (yr_343 i0 i1 i2 V D))
  | _ => none
def yS_29 : List (Nat × ySm) := (343, yu_343) :: yS_28
theorem yS_ok_29 : ySOK yS_29 := by
  refine ySOK_cons ?_ yS_ok_28
  intro args V D gs v h hg d hl
  unfold yu_343 at h
  split at h
  · cases h
    refine yt_343_0 ?_
    unfold yr_343
    grind
  · cases h
/-- EarRooms$Sound.bouncesLow -/
def yr_345 (i0 : Int) (V : xF) (D : yD) : Int := if i0 < 0 then ((wr ((wr ((1 : Int) - i0)).tdiv 2))) else ((wr (i0.tdiv 2)))
set_option maxRecDepth 20000 in
theorem yt_345_0 {d : Nat} {i0 : Int} {V : xF} {D : yD} {Q : xRes → xF → yD → Prop}
    (h : ((0 : Int) ≤ i0 → Q (.inl (some (vi (wr (i0.tdiv 2))))) V D) ∧ (i0 < 0 → Q (.inl (some (vi (wr ((wr ((1 : Int) - i0)).tdiv 2))))) V D)) :
    RY d 345 0 [vi i0] [] V D Q := yatS yS_ok_29 (inl := []) (c := xk_345) (hd := []) (dk := []) (dv := []) (nb := [3450001]) rfl h
def yu_345 : ySm := fun args V D => match args with
  | [.inl i0] => some ([], vi (yr_345 i0 V D))
  | _ => none
def yS_30 : List (Nat × ySm) := (345, yu_345) :: yS_29
theorem yS_ok_30 : ySOK yS_30 := by
  refine ySOK_cons ?_ yS_ok_29
  intro args V D gs v h hg d hl
  unfold yu_345 at h
  split at h
  · cases h
    refine yt_345_0 ?_
    unfold yr_345
    grind
  · cases h
/-- EarRooms$Sound.bouncesHigh -/
def yr_347 (i0 : Int) (V : xF) (D : yD) : Int := if i0 < 0 then ((wr ((wr (-i0)).tdiv 2))) else ((wr ((wr (i0 + 1)).tdiv 2)))
set_option maxRecDepth 20000 in
theorem yt_347_0 {d : Nat} {i0 : Int} {V : xF} {D : yD} {Q : xRes → xF → yD → Prop}
    (h : ((0 : Int) ≤ i0 → Q (.inl (some (vi (wr ((wr (i0 + 1)).tdiv 2))))) V D) ∧ (i0 < 0 → Q (.inl (some (vi (wr ((wr (-i0)).tdiv 2))))) V D)) :
    RY d 347 0 [vi i0] [] V D Q := yatS yS_ok_30 (inl := []) (c := xk_347) (hd := []) (dk := []) (dv := []) (nb := [3470001]) rfl h
def yu_347 : ySm := fun args V D => match args with
  | [.inl i0] => some ([], vi (yr_347 i0 V D))
  | _ => none
def yS_31 : List (Nat × ySm) := (347, yu_347) :: yS_30
theorem yS_ok_31 : ySOK yS_31 := by
  refine ySOK_cons ?_ yS_ok_30
  intro args V D gs v h hg d hl
  unfold yu_347 at h
  split at h
  · cases h
    refine yt_347_0 ?_
    unfold yr_347
    grind
  · cases h
/-- EarRooms$Tape.kindOf -/
def yr_348 (i0 : Int) (V : xF) (D : yD) : Int := if i0 < 97 then (if i0 < 48 then 0 else (if (57 : Int) < i0 then 0 else 2)) else (if (122 : Int) < i0 then (if i0 < 48 then 0 else (if (57 : Int) < i0 then 0 else 2)) else 1)
set_option maxRecDepth 20000 in
theorem yt_348_0 {d : Nat} {i0 : Int} {V : xF} {D : yD} {Q : xRes → xF → yD → Prop}
    (h : (i0 < 97 → ((i0 < 48 → Q (.inl (some (vi 0))) V D) ∧ ((48 : Int) ≤ i0 → (((57 : Int) < i0 → Q (.inl (some (vi 0))) V D) ∧ (i0 ≤ 57 → Q (.inl (some (vi 2))) V D))))) ∧ ((97 : Int) ≤ i0 → (((122 : Int) < i0 → ((i0 < 48 → Q (.inl (some (vi 0))) V D) ∧ ((48 : Int) ≤ i0 → (((57 : Int) < i0 → Q (.inl (some (vi 0))) V D) ∧ (i0 ≤ 57 → Q (.inl (some (vi 2))) V D))))) ∧ (i0 ≤ 122 → Q (.inl (some (vi 1))) V D)))) :
    RY d 348 0 [vi i0] [] V D Q := yatS yS_ok_31 (inl := []) (c := xk_348) (hd := []) (dk := []) (dv := []) (nb := [3480003, 3480009, 3480019, 3480025]) rfl h
def yu_348 : ySm := fun args V D => match args with
  | [.inl i0] => some ([], vi (yr_348 i0 V D))
  | _ => none
def yS_32 : List (Nat × ySm) := (348, yu_348) :: yS_31
theorem yS_ok_32 : ySOK yS_32 := by
  refine ySOK_cons ?_ yS_ok_31
  intro args V D gs v h hg d hl
  unfold yu_348 at h
  split at h
  · cases h
    refine yt_348_0 ?_
    unfold yr_348
    grind
  · cases h
/-- EarRooms$Tape.isSign -/
def yr_357 (i1 : Int) (V : xF) (D : yD) : Int := if ((V 78 ((V 76 5).toNat))) = 0 then (if ((V 77 ((V 79 ((V 76 5).toNat)).toNat))) = i1 then 1 else 0) else 0
def yg_357 (i1 : Int) (V : xF) (D : yD) : Prop := ((0 : Int) ≤ V 76 5 ∧ V 76 5 < (401 : Int)) ∧ ((V 78 ((V 76 5).toNat)) = 0 → (((0 : Int) ≤ V 76 5 ∧ V 76 5 < (401 : Int)) ∧ ((0 : Int) ≤ V 79 ((V 76 5).toNat) ∧ V 79 ((V 76 5).toNat) < (400 : Int))))
set_option maxRecDepth 20000 in
theorem yt_357_0 {d : Nat} {i1 : Int} {V : xF} {D : yD} {Q : xRes → xF → yD → Prop}
    (h : ((0 : Int) ≤ V 76 5 ∧ V 76 5 < (401 : Int)) ∧ (((V 78 ((V 76 5).toNat)) ≠ 0 → Q (.inl (some (vi 0))) V D) ∧ ((V 78 ((V 76 5).toNat)) = 0 → (((0 : Int) ≤ V 76 5 ∧ V 76 5 < (401 : Int)) ∧ ((0 : Int) ≤ V 79 ((V 76 5).toNat) ∧ V 79 ((V 76 5).toNat) < (400 : Int)) ∧ (((V 77 ((V 79 ((V 76 5).toNat)).toNat)) ≠ i1 → Q (.inl (some (vi 0))) V D) ∧ ((V 77 ((V 79 ((V 76 5).toNat)).toNat)) = i1 → Q (.inl (some (vi 1))) V D)))))) :
    RY d 357 0 [vr 76, vi i1] [] V D Q := yatS yS_ok_32 (inl := []) (c := xk_357) (hd := []) (dk := []) (dv := [3570008, 3570024, 3570025]) (nb := [3570009, 3570027]) rfl h
def yu_357 : ySm := fun args V D => match args with
  | [.inr (.inr a0), .inl i1] => (match Nat.beq a0 76 with | true => some ([yg_357 i1 V D], vi (yr_357 i1 V D)) | false => none)
  | _ => none
def yS_33 : List (Nat × ySm) := (357, yu_357) :: yS_32
theorem yS_ok_33 : ySOK yS_33 := by
  refine ySOK_cons ?_ yS_ok_32
  intro args V D gs v h hg d hl
  unfold yu_357 at h
  split at h
  · split at h
    · cases h
      have e0 := Nat.eq_of_beq_eq_true (by assumption)
      subst e0
      refine yt_357_0 ?_
      simp only [xall, yg_357] at hg
      unfold yr_357
      grind
    · cases h
  · cases h
/-- EarRoomsModel.gives -/
def yr_365 (i0 : Int) (V : xF) (D : yD) : Int := if i0 = 0 then 0 else (if i0 = 1 then 2 else (if i0 = 2 then 5 else (if i0 = 3 then 8 else 9)))
set_option maxRecDepth 20000 in
theorem yt_365_0 {d : Nat} {i0 : Int} {V : xF} {D : yD} {Q : xRes → xF → yD → Prop}
    (h : (i0 ≠ 0 → ((i0 ≠ 1 → ((i0 ≠ 2 → ((i0 ≠ 3 → Q (.inl (some (vi 9))) V D) ∧ (i0 = 3 → Q (.inl (some (vi 8))) V D))) ∧ (i0 = 2 → Q (.inl (some (vi 5))) V D))) ∧ (i0 = 1 → Q (.inl (some (vi 2))) V D))) ∧ (i0 = 0 → Q (.inl (some (vi 0))) V D)) :
    RY d 365 0 [vi i0] [] V D Q := yatS yS_ok_33 (inl := []) (c := xk_365) (hd := []) (dk := []) (dv := []) (nb := [3650001, 3650010, 3650019, 3650028]) rfl h
def yu_365 : ySm := fun args V D => match args with
  | [.inl i0] => some ([], vi (yr_365 i0 V D))
  | _ => none
def yS_34 : List (Nat × ySm) := (365, yu_365) :: yS_33
theorem yS_ok_34 : ySOK yS_34 := by
  refine ySOK_cons ?_ yS_ok_33
  intro args V D gs v h hg d hl
  unfold yu_365 at h
  split at h
  · cases h
    refine yt_365_0 ?_
    unfold yr_365
    grind
  · cases h
/-- EarRooms$Places.numberOf -/
def yr_368_81 (i1 : Int) (i2 : Int) (V : xF) (D : yD) : Int := (wr ((wr ((wr ((wr ((wr (i2.tdiv 16)) - 1)) * (wr ((V 83 i1.toNat) - 1)))) + (i2.tmod 16))) - 1))
def yg_368_81 (i1 : Int) (i2 : Int) (V : xF) (D : yD) : Prop := ((0 : Int) ≤ i1 ∧ i1 < (5 : Int))
set_option maxRecDepth 20000 in
theorem yt_368_0_81 {d : Nat} {i1 i2 : Int} {V : xF} {D : yD} {Q : xRes → xF → yD → Prop}
    (h : ((0 : Int) ≤ i1 ∧ i1 < (5 : Int)) ∧ Q (.inl (some (vi (wr ((wr ((wr ((wr ((wr (i2.tdiv 16)) - 1)) * (wr ((V 83 i1.toNat) - 1)))) + (i2.tmod 16))) - 1))))) V D) :
    RY d 368 0 [vr 81, vi i1, vi i2] [] V D Q := yatS yS_ok_34 (inl := []) (c := xk_368) (hd := []) (dk := []) (dv := [3680011]) (nb := []) rfl h
def yu_368 : ySm := fun args V D => match args with
  | [.inr (.inr a0), .inl i1, .inl i2] => (match Nat.beq a0 81 with | true => some ([yg_368_81 i1 i2 V D], vi (yr_368_81 i1 i2 V D)) | false => none)
  | _ => none
def yS_35 : List (Nat × ySm) := (368, yu_368) :: yS_34
theorem yS_ok_35 : ySOK yS_35 := by
  refine ySOK_cons ?_ yS_ok_34
  intro args V D gs v h hg d hl
  unfold yu_368 at h
  split at h
  · split at h
    · cases h
      have e0 := Nat.eq_of_beq_eq_true (by assumption)
      subst e0
      refine yt_368_0_81 ?_
      simp only [xall, yg_368_81] at hg
      unfold yr_368_81
      grind
    · cases h
  · cases h
/-- EarRooms$Tape.letters -/
def yr_374 (V : xF) (D : yD) : Int := if ((V 78 ((V 76 5).toNat))) = 1 then ((wr ((V 80 ((V 76 5).toNat)) - (V 79 ((V 76 5).toNat))))) else (((-1)))
def yg_374 (V : xF) (D : yD) : Prop := ((0 : Int) ≤ V 76 5 ∧ V 76 5 < (401 : Int)) ∧ ((V 78 ((V 76 5).toNat)) = 1 → (((0 : Int) ≤ V 76 5 ∧ V 76 5 < (401 : Int)) ∧ ((0 : Int) ≤ V 76 5 ∧ V 76 5 < (401 : Int))))
set_option maxRecDepth 20000 in
theorem yt_374_0 {d : Nat} {V : xF} {D : yD} {Q : xRes → xF → yD → Prop}
    (h : ((0 : Int) ≤ V 76 5 ∧ V 76 5 < (401 : Int)) ∧ (((V 78 ((V 76 5).toNat)) ≠ 1 → Q (.inl (some (vi ((-1))))) V D) ∧ ((V 78 ((V 76 5).toNat)) = 1 → (((0 : Int) ≤ V 76 5 ∧ V 76 5 < (401 : Int)) ∧ ((0 : Int) ≤ V 76 5 ∧ V 76 5 < (401 : Int)) ∧ Q (.inl (some (vi (wr ((V 80 ((V 76 5).toNat)) - (V 79 ((V 76 5).toNat))))))) V D)))) :
    RY d 374 0 [vr 76] [] V D Q := yatS yS_ok_35 (inl := []) (c := xk_374) (hd := []) (dk := []) (dv := [3740008, 3740021, 3740030]) (nb := [3740010]) rfl h
def yu_374 : ySm := fun args V D => match args with
  | [.inr (.inr a0)] => (match Nat.beq a0 76 with | true => some ([yg_374 V D], vi (yr_374 V D)) | false => none)
  | _ => none
def yS_36 : List (Nat × ySm) := (374, yu_374) :: yS_35
theorem yS_ok_36 : ySOK yS_36 := by
  refine ySOK_cons ?_ yS_ok_35
  intro args V D gs v h hg d hl
  unfold yu_374 at h
  split at h
  · split at h
    · cases h
      have e0 := Nat.eq_of_beq_eq_true (by assumption)
      subst e0
      refine yt_374_0 ?_
      simp only [xall, yg_374] at hg
      unfold yr_374
      grind
    · cases h
  · cases h
/-- EarRooms$Tape.letter -/
def yr_375 (i1 : Int) (V : xF) (D : yD) : Int := if i1 < 0 then 32 else (if i1 < (wr ((V 80 ((V 76 5).toNat)) - (V 79 ((V 76 5).toNat)))) then ((xi2c (V 77 ((wr ((V 79 ((V 76 5).toNat)) + i1)).toNat)))) else 32)
def yg_375 (i1 : Int) (V : xF) (D : yD) : Prop := (i1 < 0 → ((0 : Int) ≤ 32 ∧ (32 : Int) < 65536)) ∧ ((0 : Int) ≤ i1 → (((0 : Int) ≤ V 76 5 ∧ V 76 5 < (401 : Int)) ∧ (((0 : Int) ≤ V 76 5 ∧ V 76 5 < (401 : Int)) ∧ ((i1 < (wr ((V 80 ((V 76 5).toNat)) - (V 79 ((V 76 5).toNat)))) → (((0 : Int) ≤ V 76 5 ∧ V 76 5 < (401 : Int)) ∧ (((0 : Int) ≤ wr ((V 79 ((V 76 5).toNat)) + i1) ∧ wr ((V 79 ((V 76 5).toNat)) + i1) < (400 : Int)) ∧ ((0 : Int) ≤ xi2c (V 77 ((wr ((V 79 ((V 76 5).toNat)) + i1)).toNat)) ∧ (xi2c (V 77 ((wr ((V 79 ((V 76 5).toNat)) + i1)).toNat))) < 65536)))) ∧ ((wr ((V 80 ((V 76 5).toNat)) - (V 79 ((V 76 5).toNat)))) ≤ i1 → ((0 : Int) ≤ 32 ∧ (32 : Int) < 65536))))))
set_option maxRecDepth 20000 in
theorem yt_375_0 {d : Nat} {i1 : Int} {V : xF} {D : yD} {Q : xRes → xF → yD → Prop}
    (h : (i1 < 0 → (((0 : Int) ≤ 32 ∧ (32 : Int) < 65536) ∧ Q (.inl (some (vi 32))) V D)) ∧ ((0 : Int) ≤ i1 → (((0 : Int) ≤ V 76 5 ∧ V 76 5 < (401 : Int)) ∧ ((0 : Int) ≤ V 76 5 ∧ V 76 5 < (401 : Int)) ∧ ((i1 < (wr ((V 80 ((V 76 5).toNat)) - (V 79 ((V 76 5).toNat)))) → (((0 : Int) ≤ V 76 5 ∧ V 76 5 < (401 : Int)) ∧ ((0 : Int) ≤ wr ((V 79 ((V 76 5).toNat)) + i1) ∧ wr ((V 79 ((V 76 5).toNat)) + i1) < (400 : Int)) ∧ ((0 : Int) ≤ xi2c (V 77 ((wr ((V 79 ((V 76 5).toNat)) + i1)).toNat)) ∧ (xi2c (V 77 ((wr ((V 79 ((V 76 5).toNat)) + i1)).toNat))) < 65536) ∧ Q (.inl (some (vi (xi2c (V 77 ((wr ((V 79 ((V 76 5).toNat)) + i1)).toNat)))))) V D)) ∧ ((wr ((V 80 ((V 76 5).toNat)) - (V 79 ((V 76 5).toNat)))) ≤ i1 → (((0 : Int) ≤ 32 ∧ (32 : Int) < 65536) ∧ Q (.inl (some (vi 32))) V D)))))) :
    RY d 375 0 [vr 76, vi i1] [] V D Q := yatS yS_ok_36 (inl := []) (c := xk_375) (hd := []) (dk := []) (dv := [3750013, 3750022, 3750044, 3750047, 3750049]) (nb := [3750001, 3750024]) rfl h
def yu_375 : ySm := fun args V D => match args with
  | [.inr (.inr a0), .inl i1] => (match Nat.beq a0 76 with | true => some ([yg_375 i1 V D], vi (yr_375 i1 V D)) | false => none)
  | _ => none
def yS_37 : List (Nat × ySm) := (375, yu_375) :: yS_36
theorem yS_ok_37 : ySOK yS_37 := by
  refine ySOK_cons ?_ yS_ok_36
  intro args V D gs v h hg d hl
  unfold yu_375 at h
  split at h
  · split at h
    · cases h
      have e0 := Nat.eq_of_beq_eq_true (by assumption)
      subst e0
      refine yt_375_0 ?_
      simp only [xall, yg_375] at hg
      unfold yr_375
      grind
    · cases h
  · cases h
/-- EarRoomsModel.isRoom -/
def yr_132 (i1 : Int) (V : xF) (D : yD) : Int := (yr_124 i1 0 (wr ((V 406 3) - 1)) V D)
def yg_132 (i1 : Int) (V : xF) (D : yD) : Prop := ((yr_124 i1 0 (wr ((V 406 3) - 1)) V D) = 0 ∨ (yr_124 i1 0 (wr ((V 406 3) - 1)) V D) = 1)
set_option maxRecDepth 20000 in
theorem yt_132_0 {d : Nat} {i1 : Int} {V : xF} {D : yD} {Q : xRes → xF → yD → Prop}
    (h : ((yr_124 i1 0 (wr ((V 406 3) - 1)) V D) = 0 ∨ (yr_124 i1 0 (wr ((V 406 3) - 1)) V D) = 1) ∧ Q (.inl (some (vi (yr_124 i1 0 (wr ((V 406 3) - 1)) V D)))) V D) :
    RY d 132 0 [vr 405, vi i1] [] V D Q := yatS yS_ok_37 (inl := []) (c := xk_132) (hd := []) (dk := []) (dv := [1320013]) (nb := []) rfl h
def yu_132 : ySm := fun args V D => match args with
  | [.inr (.inr a0), .inl i1] => (match Nat.beq a0 405 with | true => some ([yg_132 i1 V D], vi (yr_132 i1 V D)) | false => none)
  | _ => none
def yS_38 : List (Nat × ySm) := (132, yu_132) :: yS_37
theorem yS_ok_38 : ySOK yS_38 := by
  refine ySOK_cons ?_ yS_ok_37
  intro args V D gs v h hg d hl
  unfold yu_132 at h
  split at h
  · split at h
    · cases h
      have e0 := Nat.eq_of_beq_eq_true (by assumption)
      subst e0
      refine yt_132_0 ?_
      simp only [xall, yg_132] at hg
      unfold yr_132
      grind
    · cases h
  · cases h
/-- EarRoomsModel.isTenant -/
def yr_142 (i1 : Int) (V : xF) (D : yD) : Int := (yr_124 i1 0 (wr ((V 406 4) - 1)) V D)
def yg_142 (i1 : Int) (V : xF) (D : yD) : Prop := ((yr_124 i1 0 (wr ((V 406 4) - 1)) V D) = 0 ∨ (yr_124 i1 0 (wr ((V 406 4) - 1)) V D) = 1)
set_option maxRecDepth 20000 in
theorem yt_142_0 {d : Nat} {i1 : Int} {V : xF} {D : yD} {Q : xRes → xF → yD → Prop}
    (h : ((yr_124 i1 0 (wr ((V 406 4) - 1)) V D) = 0 ∨ (yr_124 i1 0 (wr ((V 406 4) - 1)) V D) = 1) ∧ Q (.inl (some (vi (yr_124 i1 0 (wr ((V 406 4) - 1)) V D)))) V D) :
    RY d 142 0 [vr 405, vi i1] [] V D Q := yatS yS_ok_38 (inl := []) (c := xk_142) (hd := []) (dk := []) (dv := [1420013]) (nb := []) rfl h
def yu_142 : ySm := fun args V D => match args with
  | [.inr (.inr a0), .inl i1] => (match Nat.beq a0 405 with | true => some ([yg_142 i1 V D], vi (yr_142 i1 V D)) | false => none)
  | _ => none
def yS_39 : List (Nat × ySm) := (142, yu_142) :: yS_38
theorem yS_ok_39 : ySOK yS_39 := by
  refine ySOK_cons ?_ yS_ok_38
  intro args V D gs v h hg d hl
  unfold yu_142 at h
  split at h
  · split at h
    · cases h
      have e0 := Nat.eq_of_beq_eq_true (by assumption)
      subst e0
      refine yt_142_0 ?_
      simp only [xall, yg_142] at hg
      unfold yr_142
      grind
    · cases h
  · cases h
/-- EarRoomsModel.isPlace -/
def yr_164 (i1 : Int) (i2 : Int) (i3 : Int) (V : xF) (D : yD) : Int := if ((yr_124 i2 1 (wr ((yr_133 i1 0 V D) - 1)) V D)) = 0 then 0 else (if ((yr_124 i3 1 (wr ((yr_133 i1 1 V D) - 1)) V D)) = 0 then 0 else 1)
def yg_164 (i1 : Int) (i2 : Int) (i3 : Int) (V : xF) (D : yD) : Prop := yg_133 i1 0 V D ∧ ((yr_124 i2 1 (wr ((yr_133 i1 0 V D) - 1)) V D) ≠ 0 → yg_133 i1 1 V D)
set_option maxRecDepth 20000 in
theorem yt_164_0 {d : Nat} {i1 i2 i3 : Int} {V : xF} {D : yD} {Q : xRes → xF → yD → Prop}
    (h : yg_133 i1 0 V D ∧ (((yr_124 i2 1 (wr ((yr_133 i1 0 V D) - 1)) V D) = 0 → Q (.inl (some (vi 0))) V D) ∧ ((yr_124 i2 1 (wr ((yr_133 i1 0 V D) - 1)) V D) ≠ 0 → (yg_133 i1 1 V D ∧ (((yr_124 i3 1 (wr ((yr_133 i1 1 V D) - 1)) V D) = 0 → Q (.inl (some (vi 0))) V D) ∧ ((yr_124 i3 1 (wr ((yr_133 i1 1 V D) - 1)) V D) ≠ 0 → Q (.inl (some (vi 1))) V D)))))) :
    RY d 164 0 [vr 405, vi i1, vi i2, vi i3] [] V D Q := yatS yS_ok_39 (inl := []) (c := xk_164) (hd := []) (dk := []) (dv := []) (nb := [1640013, 1640029]) rfl h
def yu_164 : ySm := fun args V D => match args with
  | [.inr (.inr a0), .inl i1, .inl i2, .inl i3] => (match Nat.beq a0 405 with | true => some ([yg_164 i1 i2 i3 V D], vi (yr_164 i1 i2 i3 V D)) | false => none)
  | _ => none
def yS_40 : List (Nat × ySm) := (164, yu_164) :: yS_39
theorem yS_ok_40 : ySOK yS_40 := by
  refine ySOK_cons ?_ yS_ok_39
  intro args V D gs v h hg d hl
  unfold yu_164 at h
  split at h
  · split at h
    · cases h
      have e0 := Nat.eq_of_beq_eq_true (by assumption)
      subst e0
      refine yt_164_0 ?_
      simp only [xall, yg_164] at hg
      unfold yr_164
      grind
    · cases h
  · cases h
/-- EarRooms$State.middle -/
def yr_211_81 (i1 : Int) (V : xF) (D : yD) : Int := (yr_265 (wr ((V 82 i1.toNat).tdiv 2)) (wr ((V 83 i1.toNat).tdiv 2)) V D)
def yg_211_81 (i1 : Int) (V : xF) (D : yD) : Prop := ((0 : Int) ≤ i1 ∧ i1 < (5 : Int)) ∧ ((0 : Int) ≤ i1 ∧ i1 < (5 : Int))
set_option maxRecDepth 20000 in
theorem yt_211_0_81 {d : Nat} {i1 : Int} {V : xF} {D : yD} {Q : xRes → xF → yD → Prop}
    (h : ((0 : Int) ≤ i1 ∧ i1 < (5 : Int)) ∧ ((0 : Int) ≤ i1 ∧ i1 < (5 : Int)) ∧ Q (.inl (some (vi (yr_265 (wr ((V 82 i1.toNat).tdiv 2)) (wr ((V 83 i1.toNat).tdiv 2)) V D)))) V D) :
    RY d 211 0 [vr 81, vi i1] [] V D Q := yatS yS_ok_40 (inl := []) (c := xk_211) (hd := []) (dk := []) (dv := [2110005, 2110013]) (nb := []) rfl h
def yr_211_92 (i1 : Int) (V : xF) (D : yD) : Int := (yr_265 (wr ((V 93 i1.toNat).tdiv 2)) (wr ((V 94 i1.toNat).tdiv 2)) V D)
def yg_211_92 (i1 : Int) (V : xF) (D : yD) : Prop := ((0 : Int) ≤ i1 ∧ i1 < (5 : Int)) ∧ ((0 : Int) ≤ i1 ∧ i1 < (5 : Int))
set_option maxRecDepth 20000 in
theorem yt_211_0_92 {d : Nat} {i1 : Int} {V : xF} {D : yD} {Q : xRes → xF → yD → Prop}
    (h : ((0 : Int) ≤ i1 ∧ i1 < (5 : Int)) ∧ ((0 : Int) ≤ i1 ∧ i1 < (5 : Int)) ∧ Q (.inl (some (vi (yr_265 (wr ((V 93 i1.toNat).tdiv 2)) (wr ((V 94 i1.toNat).tdiv 2)) V D)))) V D) :
    RY d 211 0 [vr 92, vi i1] [] V D Q := yatS yS_ok_40 (inl := []) (c := xk_211) (hd := []) (dk := []) (dv := [2110005, 2110013]) (nb := []) rfl h
def yu_211 : ySm := fun args V D => match args with
  | [.inr (.inr a0), .inl i1] => (match Nat.beq a0 81 with | true => some ([yg_211_81 i1 V D], vi (yr_211_81 i1 V D)) | false => (match Nat.beq a0 92 with | true => some ([yg_211_92 i1 V D], vi (yr_211_92 i1 V D)) | false => none))
  | _ => none
def yS_41 : List (Nat × ySm) := (211, yu_211) :: yS_40
theorem yS_ok_41 : ySOK yS_41 := by
  refine ySOK_cons ?_ yS_ok_40
  intro args V D gs v h hg d hl
  unfold yu_211 at h
  split at h
  · split at h
    · cases h
      have e0 := Nat.eq_of_beq_eq_true (by assumption)
      subst e0
      refine yt_211_0_81 ?_
      simp only [xall, yg_211_81] at hg
      unfold yr_211_81
      grind
    · split at h
      · cases h
        have e0 := Nat.eq_of_beq_eq_true (by assumption)
        subst e0
        refine yt_211_0_92 ?_
        simp only [xall, yg_211_92] at hg
        unfold yr_211_92
        grind
      · cases h
  · cases h
/-- EarRoomsModel.placesOf -/
def yr_215 (i1 : Int) (V : xF) (D : yD) : Int := (wr ((wr ((yr_133 i1 0 V D) - 1)) * (wr ((yr_133 i1 1 V D) - 1))))
def yg_215 (i1 : Int) (V : xF) (D : yD) : Prop := yg_133 i1 0 V D ∧ yg_133 i1 1 V D
set_option maxRecDepth 20000 in
theorem yt_215_0 {d : Nat} {i1 : Int} {V : xF} {D : yD} {Q : xRes → xF → yD → Prop}
    (h : yg_133 i1 0 V D ∧ yg_133 i1 1 V D ∧ Q (.inl (some (vi (wr ((wr ((yr_133 i1 0 V D) - 1)) * (wr ((yr_133 i1 1 V D) - 1))))))) V D) :
    RY d 215 0 [vr 405, vi i1] [] V D Q := yatS yS_ok_41 (inl := []) (c := xk_215) (hd := []) (dk := []) (dv := []) (nb := []) rfl h
def yu_215 : ySm := fun args V D => match args with
  | [.inr (.inr a0), .inl i1] => (match Nat.beq a0 405 with | true => some ([yg_215 i1 V D], vi (yr_215 i1 V D)) | false => none)
  | _ => none
def yS_42 : List (Nat × ySm) := (215, yu_215) :: yS_41
theorem yS_ok_42 : ySOK yS_42 := by
  refine ySOK_cons ?_ yS_ok_41
  intro args V D gs v h hg d hl
  unfold yu_215 at h
  split at h
  · split at h
    · cases h
      have e0 := Nat.eq_of_beq_eq_true (by assumption)
      subst e0
      refine yt_215_0 ?_
      simp only [xall, yg_215] at hg
      unfold yr_215
      grind
    · cases h
  · cases h
/-- EarRooms$Places.placesOf -/
def yr_314_81 (i1 : Int) (V : xF) (D : yD) : Int := (yr_291 (wr ((wr ((V 82 i1.toNat) - 1)) * (wr ((V 83 i1.toNat) - 1)))) 121 V D)
def yg_314_81 (i1 : Int) (V : xF) (D : yD) : Prop := ((0 : Int) ≤ i1 ∧ i1 < (5 : Int)) ∧ ((0 : Int) ≤ i1 ∧ i1 < (5 : Int))
set_option maxRecDepth 20000 in
theorem yt_314_0_81 {d : Nat} {i1 : Int} {V : xF} {D : yD} {Q : xRes → xF → yD → Prop}
    (h : ((0 : Int) ≤ i1 ∧ i1 < (5 : Int)) ∧ ((0 : Int) ≤ i1 ∧ i1 < (5 : Int)) ∧ Q (.inl (some (vi (yr_291 (wr ((wr ((V 82 i1.toNat) - 1)) * (wr ((V 83 i1.toNat) - 1)))) 121 V D)))) V D) :
    RY d 314 0 [vr 81, vi i1] [] V D Q := yatS yS_ok_42 (inl := []) (c := xk_314) (hd := []) (dk := []) (dv := [3140005, 3140013]) (nb := []) rfl h
def yu_314 : ySm := fun args V D => match args with
  | [.inr (.inr a0), .inl i1] => (match Nat.beq a0 81 with | true => some ([yg_314_81 i1 V D], vi (yr_314_81 i1 V D)) | false => none)
  | _ => none
def yS_43 : List (Nat × ySm) := (314, yu_314) :: yS_42
theorem yS_ok_43 : ySOK yS_43 := by
  refine ySOK_cons ?_ yS_ok_42
  intro args V D gs v h hg d hl
  unfold yu_314 at h
  split at h
  · split at h
    · cases h
      have e0 := Nat.eq_of_beq_eq_true (by assumption)
      subst e0
      refine yt_314_0_81 ?_
      simp only [xall, yg_314_81] at hg
      unfold yr_314_81
      grind
    · cases h
  · cases h
/-- EarRooms$Places.placeAt -/
def yr_315_81 (i1 : Int) (i2 : Int) (V : xF) (D : yD) : Int := (yr_265 (wr ((1 : Int) + (wr (i2.tdiv (yr_292 1 (wr ((V 83 i1.toNat) - 1)) V D))))) (wr ((1 : Int) + (i2.tmod (yr_292 1 (wr ((V 83 i1.toNat) - 1)) V D)))) V D)
def yg_315_81 (i1 : Int) (i2 : Int) (V : xF) (D : yD) : Prop := ((0 : Int) ≤ i1 ∧ i1 < (5 : Int)) ∧ ((yr_292 1 (wr ((V 83 i1.toNat) - 1)) V D) ≠ 0 ∧ (yr_292 1 (wr ((V 83 i1.toNat) - 1)) V D) ≠ 0)
set_option maxRecDepth 20000 in
theorem yt_315_0_81 {d : Nat} {i1 i2 : Int} {V : xF} {D : yD} {Q : xRes → xF → yD → Prop}
    (h : ((0 : Int) ≤ i1 ∧ i1 < (5 : Int)) ∧ (yr_292 1 (wr ((V 83 i1.toNat) - 1)) V D) ≠ 0 ∧ (yr_292 1 (wr ((V 83 i1.toNat) - 1)) V D) ≠ 0 ∧ Q (.inl (some (vi (yr_265 (wr ((1 : Int) + (wr (i2.tdiv (yr_292 1 (wr ((V 83 i1.toNat) - 1)) V D))))) (wr ((1 : Int) + (i2.tmod (yr_292 1 (wr ((V 83 i1.toNat) - 1)) V D)))) V D)))) V D) :
    RY d 315 0 [vr 81, vi i1, vi i2, vr 0] [] V D Q := yatS yS_ok_43 (inl := []) (c := xk_315) (hd := []) (dk := []) (dv := [3150006, 3150016, 3150021]) (nb := []) rfl h
def yu_315 : ySm := fun args V D => match args with
  | [.inr (.inr a0), .inl i1, .inl i2] => (match Nat.beq a0 81 with | true => some ([yg_315_81 i1 i2 V D], vi (yr_315_81 i1 i2 V D)) | false => none)
  | _ => none
def yS_44 : List (Nat × ySm) := (315, yu_315) :: yS_43
theorem yS_ok_44 : ySOK yS_44 := by
  refine ySOK_cons ?_ yS_ok_43
  intro args V D gs v h hg d hl
  unfold yu_315 at h
  split at h
  · split at h
    · cases h
      have e0 := Nat.eq_of_beq_eq_true (by assumption)
      subst e0
      refine yt_315_0_81 ?_
      simp only [xall, yg_315_81] at hg
      unfold yr_315_81
      grind
    · cases h
  · cases h
/-- EarRooms$Sound.wallsAlong -/
def yr_329 (i0 : Int) (V : xF) (D : yD) : Int := if (0 : Int) < (yr_345 i0 V D) then (if (0 : Int) < (yr_347 i0 V D) then ((xor_ 1 2)) else ((xor_ 1 0))) else (if (0 : Int) < (yr_347 i0 V D) then ((xor_ 0 2)) else ((xor_ 0 0)))
set_option maxRecDepth 20000 in
theorem yt_329_0 {d : Nat} {i0 : Int} {V : xF} {D : yD} {Q : xRes → xF → yD → Prop}
    (h : ((yr_345 i0 V D) ≤ 0 → (((yr_347 i0 V D) ≤ 0 → Q (.inl (some (vi (xor_ 0 0)))) V D) ∧ ((0 : Int) < (yr_347 i0 V D) → Q (.inl (some (vi (xor_ 0 2)))) V D))) ∧ ((0 : Int) < (yr_345 i0 V D) → (((yr_347 i0 V D) ≤ 0 → Q (.inl (some (vi (xor_ 1 0)))) V D) ∧ ((0 : Int) < (yr_347 i0 V D) → Q (.inl (some (vi (xor_ 1 2)))) V D)))) :
    RY d 329 0 [vi i0] [] V D Q := yatS yS_ok_44 (inl := []) (c := xk_329) (hd := []) (dk := []) (dv := []) (nb := [3290004, 3290016]) rfl h
def yu_329 : ySm := fun args V D => match args with
  | [.inl i0] => some ([], vi (yr_329 i0 V D))
  | _ => none
def yS_45 : List (Nat × ySm) := (329, yu_329) :: yS_44
theorem yS_ok_45 : ySOK yS_45 := by
  refine ySOK_cons ?_ yS_ok_44
  intro args V D gs v h hg d hl
  unfold yu_329 at h
  split at h
  · cases h
    refine yt_329_0 ?_
    unfold yr_329
    grind
  · cases h
abbrev yS : List (Nat × ySm) := yS_45
theorem yS_ok : ySOK yS := yS_ok_45
abbrev yINL : List Nat := [5, 12, 101, 102, 127, 172, 229, 296, 326, 358, 366, 367, 373]
theorem yat {d y pc : Nat} {ls st : List xV} {V : xF} {D : yD} {Q : xRes → xF → yD → Prop} {dk dv nb hd : List Nat} {c : List xI} (hc : xPP.1 y = c) (h : ywp yS yINL dk dv nb hd 400 c (xseek pc c) d y ls st V D Q) : RY d y pc ls st V D Q := yatS yS_ok hc h
