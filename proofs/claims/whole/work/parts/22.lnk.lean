/-! ===== WORDS BY THEIR PLACE ===== -/
def xAtL : List (List Cond) := [k2_sels lw_privs_1, k2_sels lw_privs_2, k2_sels lw_privs_3, k2_sels lw_privs_4, k2_sels lw_privs_5, k2_sels lw_privs_6, k2_sels lw_privs_7, k2_sels lw_privs_8, tables_1_1, tables_1_2, tables_1_3, tables_1_4, tables_1_5, tables_1_6, tables_1_7, tables_1_8, tables_1_9, tables_1_10]
theorem xAtL_mem : ∀ l ∈ xAtL, ∀ w ∈ l, w ∈ lw_tbl := by
  intro l hl w hw
  simp only [xAtL, List.mem_cons, List.not_mem_nil, or_false] at hl
  simp only [lw_tbl, lw_privs, tables_1, k2_sels, List.map_append, List.mem_append]
  rcases hl with h | h | h | h | h | h | h | h | h | h | h | h | h | h | h | h | h | h
  all_goals (subst h; (try unfold k2_sels at hw); simp only [hw, true_or, or_true])
def xAt (q : Nat × Nat) : Option Cond := (xAtL.getD q.1 [])[q.2]?
theorem xAt_mem {q : Nat × Nat} {w : Cond} (h : xAt q = some w) : w ∈ lw_tbl := by
  unfold xAt at h
  have hw := List.mem_of_getElem? h
  rw [List.getD_eq_getElem?_getD] at hw
  by_cases hq : q.1 < xAtL.length
  · rw [List.getElem?_eq_getElem hq] at hw
    exact xAtL_mem _ (List.getElem_mem hq) w hw
  · rw [List.getElem?_eq_none (by omega)] at hw
    cases hw
def xWB : List Cond → List (Nat × Nat) → Bool
  | [], _ => true
  | w :: ws, q :: qs => decide (xAt q = some w) && goodWord w && xWB ws qs
  | _ :: _, [] => false
theorem xWB_of : ∀ {ws : List Cond} {qs : List (Nat × Nat)}, xWB ws qs = true → ∀ w ∈ ws, w ∈ xTg := by
  intro ws
  induction ws with
  | nil => intro qs _ w hw; cases hw
  | cons x ws ih =>
    intro qs h w hw
    cases qs with
    | nil => cases h
    | cons q qs =>
      simp only [xWB, Bool.and_eq_true, decide_eq_true_eq] at h
      rcases List.mem_cons.mp hw with rfl | hw
      · exact List.mem_filter.mpr ⟨xAt_mem h.1.1, h.1.2⟩
      · exact ih h.2 w hw
def xDecB (c : ByteArray) : List xI → Bool
  | [] => true
  | e :: r => decide (decode c e.1 = .ok (e.2.1, e.2.2.1)) && xDecB c r
theorem xDec_B {c : ByteArray} : ∀ {l : List xI}, xDecB c l = true → xDec c l := by
  intro l
  induction l with
  | nil => intro _; trivial
  | cons e l ih =>
    intro h
    simp only [xDecB, Bool.and_eq_true, decide_eq_true_eq] at h
    exact ⟨h.1, ih h.2⟩
def xTB : List Cond → List (Option (Nat × Nat)) → Bool
  | [], _ => true
  | w :: ws, some q :: qs => (decide (xAt q = some w) && goodWord w) && vx_ot w && xTB ws qs
  | w :: ws, none :: qs => decide (w ∈ xbadL) && vx_ot w && xTB ws qs
  | _ :: _, [] => false
theorem xTB_of : ∀ {ws : List Cond} {qs : List (Option (Nat × Nat))}, xTB ws qs = true → ∀ w ∈ ws, (w ∈ xTg ∨ w ∈ xbadL) ∧ vx_ot w = true := by
  intro ws
  induction ws with
  | nil => intro qs _ w hw; cases hw
  | cons x ws ih =>
    intro qs h w hw
    match qs, h with
    | some q :: qs, h =>
      simp only [xTB, Bool.and_eq_true, decide_eq_true_eq] at h
      rcases List.mem_cons.mp hw with rfl | hw
      · exact ⟨Or.inl (List.mem_filter.mpr ⟨xAt_mem h.1.1.1, h.1.1.2⟩), h.1.2⟩
      · exact ih h.2 w hw
    | none :: qs, h =>
      simp only [xTB, Bool.and_eq_true, decide_eq_true_eq] at h
      rcases List.mem_cons.mp hw with rfl | hw
      · exact ⟨Or.inr h.1.1, h.1.2⟩
      · exact ih h.2 w hw
theorem xTab_cl : xClOK (tcl xTab) (tTg xTab) := by
  refine xClOK_of (by decide +kernel) ?_ (by decide +kernel)
  have h : xWB (xcl.flatMap fun r => u_ws r.1 r.2.1 r.2.2) [(9, 163), (9, 20), (8, 51), (8, 53), (8, 55), (8, 57), (8, 59), (9, 36), (9, 38), (9, 40), (9, 42), (9, 44), (9, 46), (9, 48), (9, 139), (9, 141), (9, 143), (9, 145), (9, 147), (9, 149), (9, 151), (9, 153), (9, 117), (9, 119), (9, 121), (8, 117), (8, 119), (8, 121), (9, 95), (9, 97), (9, 99), (9, 101), (9, 103), (9, 65), (9, 67), (9, 69), (9, 71), (9, 73), (9, 75), (9, 77), (9, 79), (8, 209), (8, 211), (8, 213), (8, 215), (8, 217), (8, 219), (8, 221), (8, 223), (8, 225), (8, 227), (8, 229), (8, 231), (8, 233), (8, 235), (8, 237), (8, 239), (9, 1), (9, 3), (9, 5), (9, 7), (9, 9), (8, 81), (8, 83), (8, 85), (8, 87), (8, 89), (8, 91), (8, 93), (8, 95), (8, 97), (9, 183), (9, 185), (9, 187), (9, 189), (9, 191), (9, 193), (9, 195), (9, 197), (9, 199), (9, 201), (9, 203), (9, 205), (9, 207), (9, 209), (9, 211), (9, 213), (9, 215), (14, 221), (14, 223), (14, 225), (14, 227), (14, 229), (14, 231), (14, 233), (14, 235), (14, 237), (14, 239), (15, 1), (15, 3), (15, 5), (15, 7), (15, 9), (15, 11), (15, 13), (15, 15), (15, 17), (15, 19), (15, 21), (15, 23), (15, 25), (15, 27), (15, 29), (15, 31), (15, 33)] = true := by decide +kernel
  intro cn r hr w hw
  exact xWB_of h w (List.mem_flatMap.mpr ⟨r, List.mem_of_getElem? hr, hw⟩)
theorem xt_0 : ∀ w ∈ Cond.classLink "EarRooms" 128 (xEx 0) :: Cond.initialized (xEx 0) :: vx_at0 "EarRooms" 130 (xEx 0) (xsup 0), (w ∈ xTg ∨ w ∈ xbadL) ∧ vx_ot w = true := xTB_of (qs := [some (11, 200), some (8, 24), some (8, 21), some (11, 222), some (11, 231), some (11, 237), some (12, 0), some (12, 2), some (11, 223), some (11, 224), some (8, 37), some (8, 38), some (11, 225), some (11, 230), some (11, 238), some (12, 14), some (11, 212), some (12, 15), some (11, 214), some (12, 16), some (11, 216), some (11, 226), some (11, 228), some (11, 218), some (12, 4), some (12, 5), some (12, 6), some (12, 7), none, some (12, 7), some (12, 8), some (12, 9), some (12, 10), none, some (12, 10), some (12, 11), some (12, 12), some (11, 223), none, some (12, 3), some (11, 201), none, some (11, 209), some (11, 210), some (11, 211), some (11, 213), some (11, 215), some (11, 217), some (11, 221), some (11, 220), some (11, 219)]) (by decide +kernel)
theorem xt_1 : ∀ w ∈ Cond.classLink "EarRooms" 134 (xEx 3) :: Cond.initialized (xEx 3) :: vx_at0 "EarRooms" 136 (xEx 3) (xsup 3), (w ∈ xTg ∨ w ∈ xbadL) ∧ vx_ot w = true := xTB_of (qs := [some (12, 26), some (8, 25), some (8, 21), some (11, 222), some (11, 231), some (11, 237), some (12, 0), some (12, 2), some (11, 223), some (11, 224), some (8, 37), some (8, 38), some (11, 225), some (11, 230), some (11, 238), some (12, 14), some (11, 212), some (12, 15), some (11, 214), some (12, 16), some (11, 216), some (11, 226), some (11, 228), some (11, 218), some (12, 36), some (12, 37), some (12, 38), some (12, 7), none, some (12, 7), some (12, 8), some (12, 9), some (12, 10), none, some (12, 10), some (12, 11), some (12, 12), some (11, 223), none, some (12, 35), some (12, 27), none, some (12, 29), some (11, 235), some (12, 30), some (12, 31), some (12, 32), some (12, 33), some (11, 221), some (11, 220), some (12, 34)]) (by decide +kernel)
theorem xt_2 : ∀ w ∈ Cond.classLink "EarRooms" 202 (xEx 4) :: Cond.initialized (xEx 4) :: vx_at0 "EarRooms" 204 (xEx 4) (xsup 4), (w ∈ xTg ∨ w ∈ xbadL) ∧ vx_ot w = true := xTB_of (qs := [some (12, 198), some (8, 28), some (8, 21), some (11, 222), some (11, 231), some (11, 237), some (12, 0), some (12, 2), some (11, 223), some (11, 224), some (8, 37), some (8, 38), some (11, 225), some (11, 230), some (11, 238), some (12, 14), some (11, 212), some (12, 15), some (11, 214), some (12, 16), some (11, 216), some (11, 226), some (11, 228), some (11, 218), some (12, 208), some (12, 209), some (12, 210), some (12, 7), none, some (12, 7), some (12, 8), some (12, 9), some (12, 10), none, some (12, 10), some (12, 11), some (12, 12), some (11, 223), none, some (12, 207), some (12, 199), none, some (12, 201), some (11, 236), some (12, 202), some (12, 203), some (12, 204), some (12, 205), some (11, 221), some (11, 220), some (12, 206)]) (by decide +kernel)
theorem xt_3 : ∀ w ∈ Cond.classLink "EarRooms" 265 (xEx 2) :: Cond.initialized (xEx 2) :: vx_at0 "EarRooms" 267 (xEx 2) (xsup 2), (w ∈ xTg ∨ w ∈ xbadL) ∧ vx_ot w = true := xTB_of (qs := [some (12, 133), some (8, 27), some (8, 21), some (11, 222), some (11, 231), some (11, 237), some (12, 0), some (12, 2), some (11, 223), some (11, 224), some (8, 37), some (8, 38), some (11, 225), some (11, 230), some (11, 238), some (12, 14), some (11, 212), some (12, 15), some (11, 214), some (12, 16), some (11, 216), some (11, 226), some (11, 228), some (11, 218), some (12, 143), some (12, 144), some (12, 145), some (12, 7), none, some (12, 7), some (12, 8), some (12, 9), some (12, 10), none, some (12, 10), some (12, 11), some (12, 12), some (11, 223), none, some (12, 142), some (12, 134), none, some (12, 136), some (11, 234), some (12, 137), some (12, 138), some (12, 139), some (12, 140), some (11, 221), some (11, 220), some (12, 141)]) (by decide +kernel)
theorem xt_4 : ∀ w ∈ Cond.classLink "EarRooms" 271 (xEx 1) :: Cond.initialized (xEx 1) :: vx_at0 "EarRooms" 273 (xEx 1) (xsup 1), (w ∈ xTg ∨ w ∈ xbadL) ∧ vx_ot w = true := xTB_of (qs := [some (13, 104), some (8, 30), some (8, 21), some (11, 222), some (11, 231), some (11, 237), some (12, 0), some (12, 2), some (11, 223), some (11, 224), some (8, 37), some (8, 38), some (11, 225), some (11, 230), some (11, 238), some (12, 14), some (11, 212), some (12, 15), some (11, 214), some (12, 16), some (11, 216), some (11, 226), some (11, 228), some (11, 218), some (13, 114), some (13, 115), some (13, 116), some (12, 7), none, some (12, 7), some (12, 8), some (12, 9), some (12, 10), none, some (12, 10), some (12, 11), some (12, 12), some (11, 223), none, some (13, 113), some (13, 105), none, some (13, 107), some (11, 233), some (13, 108), some (13, 109), some (13, 110), some (13, 111), some (11, 221), some (11, 220), some (13, 112)]) (by decide +kernel)
