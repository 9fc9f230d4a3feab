/-! ===== ARRAYS.COPYOF; THE FOUR MEMBERS AS INSTRUCTIONS ===== -/
/-- a table with one word more of those that are not good -/
def xadd (T : xTT) (w : Cond) : xTT := (T.1, T.2.1, T.2.2.1, T.2.2.2.1, (w :: tbad T, tnc T))
section XADD
variable {T : xTT} {w0 : Cond}
theorem xCat_add {y pc : Nat} (h : xCat T y pc) : xCat (xadd T w0) y pc := by
  refine ⟨h.1, fun E pc' he => ?_⟩
  obtain ⟨pre, x, suf, h1, h2, h3, h4, h5, h6, h7⟩ := h.2 E pc' he
  exact ⟨pre, x, suf, h1, h2, h3, h4, h5, List.mem_cons_of_mem _ h6, h7⟩
set_option maxRecDepth 20000 in
set_option maxHeartbeats 4000000 in
theorem xLk_add {y : Nat} {e : xI} (h : xLk T y e) : xLk (xadd T w0) y e := by
  obtain ⟨pc, ins, len, a, b, c, z⟩ := e
  obtain ⟨hd, h⟩ := h
  refine ⟨hd, ?_⟩
  cases ins
  case new i =>
    cases c with
    | zero => exact h
    | succ c =>
      obtain ⟨ic, h1, h2, h3, h4, h5, h6, h7, h8⟩ := h
      exact ⟨ic, h1, h2, h3, h4, h5, h6, h7, fun w hw => ⟨(h8 w hw).1.imp id (List.mem_cons_of_mem _), (h8 w hw).2⟩⟩
  case invokestatic i =>
    rcases b with _ | _ | b
    · obtain ⟨e1, h1, h2, h3, h4, h5⟩ := h
      exact ⟨e1, h1, h2, h3, h4, xCat_add h5⟩
    · exact h
    · exact h
  case invokespecial i =>
    cases b with
    | zero =>
      obtain ⟨e1, h1, h2, h3, h4, h5, h6, h7, h8, h9⟩ := h
      exact ⟨e1, h1, h2, h3, h4, h5, h6, h7, h8, xCat_add h9⟩
    | succ b => exact h
  case invokevirtual i =>
    rcases b with _ | _ | _ | b
    · obtain ⟨e1, h1, h2, h3, h4, h5, h6, h7, h8, h9⟩ := h
      exact ⟨e1, h1, h2, h3, h4, h5, h6, h7, xCat_add h8, h9⟩
    · exact h
    · exact h
    · exact h
  all_goals exact h
theorem xOK_add (h : xOK T) : xOK (xadd T w0) := ⟨h.1, fun y e he => xLk_add (h.2.1 y e he), h.2.2.1, h.2.2.2⟩
theorem xGr_sub {G : xG} {s : State} {H : Heap} (h : xGr (xadd T w0) G s H) : xGr T G s H := by
  obtain ⟨g1, g2, g3, g4, g5, g6, g7, g8, g9, g10⟩ := h
  exact ⟨g1, g2, g3, g4, g5, g6, g7, g8, fun w hw => g9 w (List.mem_cons_of_mem _ hw), g10⟩
end XADD
def jcl : Cond := Cond.castable "[I" "java/lang/Cloneable"
def xTab2 : xTT := xadd xTab jcl
theorem xtab2_ok : xOK xTab2 := xOK_add xtab_ok
theorem arrV_cong {cA : ClassId} {n : Nat} {F F' : Nat → Value} (h : ∀ j, j < n → F j = F' j) : arrV cA n F = arrV cA n F' := by
  unfold arrV
  congr 1
  congr 1
  funext j
  exact h j.1 j.2
theorem set_last {α : Type} {ws : List α} {x y : α} : (ws ++ [x]).set ws.length y = ws ++ [y] := by
  rw [List.set_append_right _ _ (Nat.le_refl _), Nat.sub_self]
  rfl
theorem va_P_last {D : va_G} {cl : List vw_C} {ws : va_W} {H : Heap} {q n : Nat} {cA : ClassId} {f g : Nat → Int32} (h : va_P D cl (ws ++ [(q, .inl (cA, n, .inl f))]) H) (hf : ∀ j, j < n → f j = g j) : va_P D cl (ws ++ [(q, .inl (cA, n, .inl g))]) H := by
  intro k x hk
  by_cases h1 : k < ws.length
  · refine h k x ?_
    rw [List.getElem?_append_left h1] at hk ⊢
    exact hk
  · have h2 : k = ws.length := by
      have := (List.getElem?_eq_some_iff.mp hk).1
      rw [List.length_append, List.length_singleton] at this
      omega
    subst h2
    rw [List.getElem?_concat_length] at hk
    cases hk
    have := h ws.length _ List.getElem?_concat_length
    show H[q]? = some (vp_cell cA (n, .inl g))
    have e : vp_cell cA (n, .inl g) = vp_cell cA (n, .inl f) := by
      rw [vp_cell_i, vp_cell_i]
      exact arrV_cong fun j hj => by rw [hf j hj]
    rw [e]
    exact this
theorem va_D_last {A : Nat → Prop} {ws : va_W} {q : Nat} {e e' : va_E} (h : va_D A (ws ++ [(q, e)])) : va_D A (ws ++ [(q, e')]) := by
  have := h.set (p := ws.length) (e := e') List.getElem?_concat_length
  rw [set_last] at this
  exact this
/-- the room behind a copy -/
def cpM (M : xM) (r x : Nat) : xM := ((fun b j => if b = M.2.2.2.2.1 then (if j < x ∧ j < (M.2.2.2.1 r).2 then M.1 r j else 0) else M.1 b j), zr M.2.1 M.2.2.2.2.1, zrR M.2.2.1 M.2.2.2.2.1, up1 M.2.2.2.1 M.2.2.2.2.1 (20, x), M.2.2.2.2.1 + 1, M.2.2.2.2.2.1 + 1, M.2.2.2.2.2.2 + x)
def jQc (G : xG) (ad : Nat → Nat) (M : xM) (r x : Nat) : Array Value → State → Outcome → State → Prop := fun _ st oc t => ∃ q : Nat, oc = .returned (some (.ref q)) ∧ xRelT xTab2 G (up1 ad M.2.2.2.2.1 q) (cpM M r x) t.heap ∧ va_F (xA G) st t
section JDK4
variable {l : Launch} {G : xG}
theorem jd_cpy0 : decode jcCpy 0 = .ok (.iload_n 1, 1) := by decide +kernel
theorem jd_cpy1 : decode jcCpy 1 = .ok (.aload_n 0, 1) := by decide +kernel
theorem jd_cpy2 : decode jcCpy 2 = .ok (.arraylength, 1) := by decide +kernel
theorem jd_cpy3 : decode jcCpy 3 = .ok (.if_icmp .ne 11, 3) := by decide +kernel
theorem jd_cpy6 : decode jcCpy 6 = .ok (.aload_n 0, 1) := by decide +kernel
theorem jd_cpy7 : decode jcCpy 7 = .ok (.invokevirtual 316, 3) := by decide +kernel
theorem jd_cpy10 : decode jcCpy 10 = .ok (.checkcast 317, 3) := by decide +kernel
theorem jd_cpy13 : decode jcCpy 13 = .ok (.areturn, 1) := by decide +kernel
theorem jd_cpy14 : decode jcCpy 14 = .ok (.iload_n 1, 1) := by decide +kernel
theorem jd_cpy15 : decode jcCpy 15 = .ok (.newarray .int, 2) := by decide +kernel
theorem jd_cpy17 : decode jcCpy 17 = .ok (.astore_n 2, 1) := by decide +kernel
theorem jd_cpy18 : decode jcCpy 18 = .ok (.aload_n 0, 1) := by decide +kernel
theorem jd_cpy19 : decode jcCpy 19 = .ok (.iconst 0, 1) := by decide +kernel
theorem jd_cpy20 : decode jcCpy 20 = .ok (.aload_n 2, 1) := by decide +kernel
theorem jd_cpy21 : decode jcCpy 21 = .ok (.iconst 0, 1) := by decide +kernel
theorem jd_cpy22 : decode jcCpy 22 = .ok (.aload_n 0, 1) := by decide +kernel
theorem jd_cpy23 : decode jcCpy 23 = .ok (.arraylength, 1) := by decide +kernel
theorem jd_cpy24 : decode jcCpy 24 = .ok (.iload_n 1, 1) := by decide +kernel
theorem jd_cpy25 : decode jcCpy 25 = .ok (.invokestatic 304, 3) := by decide +kernel
theorem jd_cpy28 : decode jcCpy 28 = .ok (.invokestatic 150, 3) := by decide +kernel
theorem jd_cpy31 : decode jcCpy 31 = .ok (.aload_n 2, 1) := by decide +kernel
theorem jd_cpy32 : decode jcCpy 32 = .ok (.areturn, 1) := by decide +kernel
set_option maxHeartbeats 4000000 in
set_option maxRecDepth 100000 in
theorem j_cpy {ad : Nat → Nat} {M : xM} {r : Nat} {x : Int32} (hk20 : (M.2.2.2.1 r).1 = 20) (hx0 : 0 ≤ x.toInt ∧ x.toInt ≤ 60000000) : Met l jyCpy (jw jyCpy jcCpy 3 (some (.array .int))) ({ frames := 1, cells := 1, slots := x.toInt.toNat, locals := 200 } : Room) (xPc xTab2 G ad M [.ref (ad r), .int x]) (jQc G ad M r x.toInt.toNat) 1 x.toInt.toNat (xA G) := by
  refine Met.ofW (cc := jcCpy) (maxL := 3) (ret := some (.array .int)) (by decide) rfl ?_
  intro p e s m args below meth c s₁ B hml hv
  obtain ⟨rfl, hGr, hA, hR⟩ := hv
  have hx := B.exec
  have hb := B.bytes
  have hr := B.returns
  have hts0 := atoms_spec (ws := jw jyCpy jcCpy 3 (some (.array .int))) B.pre
  have htA : ∀ w ∈ xTg, w.before _ s = true := fun w h => hts0 w (List.mem_cons_of_mem _ h)
  have hts : ∀ w ∈ jWords, w.before _ s = true := fun w h => htA w (jW h)
  have hown : s.vm.findClass jA = some m.cls := findClass_of_methodNamed B.named
  have hlocks := B.notSynchronized
  have hS : va_S (xA G) s.heap s.heap [] := va_S.rf
  have hl := lv_entry ([.ref (ad r), .int x]) (n := 3) (Nat.le_of_ble_eq_true rfl)
  rw [lg_entry_eq]
  generalize (lg_sl ([.ref (ad r), .int x]) ++ List.replicate (3 - (lg_sl ([.ref (ad r), .int x])).length) Slot.unset).toArray = ls at hl ⊢
  have hl : lv_has ls 3 [(0, .ref (ad r)), (1, .int x)] := hl
  have hK := hGr.1
  have hml' : c.maxLocals = ls.size := hml.trans hl.1.symm
  have h0 := t_low xTab2 G.2.2.2.1.2.1
  obtain ⟨g1, g2⟩ := hR.made h0 (a := r) (by omega) (by omega) (by omega)
  have hN := (hR.2.2.2.2.2.2.1 r g1 g2).2
  have eN : (Int32.ofNat (M.2.2.2.1 r).2).toInt = ((M.2.2.2.1 r).2 : Int) := nI_toInt (by omega)
  have hnx : r ≠ M.2.2.2.2.1 := by omega
  have hcl : va_Nw jcl s := (hGr.2.2.2.2.2.2.2.2.1 jcl List.mem_cons_self).2
  refine lv_iload_n hx hb jd_cpy0 rfl (lv_at hl 1 rfl) ?_
  refine lv_aload_n hx hb jd_cpy1 rfl (lv_at hl 0 rfl) ?_
  refine m_alen hx hb hK h0 hR (by omega) (by omega) (by omega) jd_cpy2 ?_
  refine lv_icmp_ne hx hb jd_cpy3 (tgt := 14) rfl (fun hne => ?_) (fun heq => ?_)
  · -- another length
    refine lv_iload_n hx hb jd_cpy14 rfl (lv_at hl 1 rfl) ?_
    refine m_newa hx hb htA hK hR hS hA (Or.inl ⟨rfl, rfl⟩) (jW (List.mem_of_getElem? (i := 63) rfl)) hx0 (Nat.le_of_ble_eq_true rfl) (by show 0 + x.toInt.toNat ≤ x.toInt.toNat; omega) jd_cpy15 (fun q H1 hR1 hS1 => ?_)
    obtain ⟨M1, hM1⟩ : ∃ M1 : xM, M1 = (zr M.1 M.2.2.2.2.1, zr M.2.1 M.2.2.2.2.1, zrR M.2.2.1 M.2.2.2.2.1, up1 M.2.2.2.1 M.2.2.2.2.1 (20, x.toInt.toNat), M.2.2.2.2.1 + 1, M.2.2.2.2.2.1 + 1, M.2.2.2.2.2.2 + x.toInt.toNat) := ⟨_, rfl⟩
    rw [← hM1] at hR1
    have er : up1 ad M.2.2.2.2.1 q r = ad r := up1_n hnx
    have en : up1 ad M.2.2.2.2.1 q M.2.2.2.2.1 = q := up1_at
    have k1r : M1.2.2.2.1 r = M.2.2.2.1 r := by rw [hM1]; exact up1_n (f := M.2.2.2.1) hnx
    have k1n : M1.2.2.2.1 M.2.2.2.2.1 = (20, x.toInt.toNat) := by rw [hM1]; exact up1_at (f := M.2.2.2.1) (a := M.2.2.2.2.1) (z := (20, x.toInt.toNat))
    refine lv_astore_n hx hb jd_cpy17 rfl hl (by decide) rfl (fun ls hl => ?_)
    have hml2 : c.maxLocals = ls.size := hml.trans hl.1.symm
    refine lv_aload_n hx hb jd_cpy18 rfl (lv_at hl 1 rfl) ?_
    refine lv_iconst (v := 0) hx hb jd_cpy19 (by decide) ?_
    refine lv_aload_n hx hb jd_cpy20 rfl (lv_at hl 0 rfl) ?_
    refine lv_iconst (v := 0) hx hb jd_cpy21 (by decide) ?_
    refine lv_aload_n hx hb jd_cpy22 rfl (lv_at hl 1 rfl) ?_
    have hal := fun kk => m_alen (p := p) (l := l) (e := e) (R := (headSpec (jw jyCpy jcCpy 3 (some (.array .int))) ({ frames := 1, cells := 1, slots := x.toInt.toNat, locals := 200 } : Room)).room) (s := s) (m := m) (args := #[.ref (ad r), .int x]) (below := below) (meth := meth) (c := c) (H := H1) (locs := []) (cells := 0 + 1) (slots := 0 + x.toInt.toNat) (Q := MQ below (jQc G ad M r x.toInt.toNat) #[.ref (ad r), .int x] s 1 x.toInt.toNat (xA G)) (ls := ls) (rest := [.int 0, .ref q, .int 0, .ref (ad r)]) hx hb hK h0 hR1 (r := r) (by rw [k1r]; omega) (by rw [k1r]; omega) (by rw [k1r]; omega) jd_cpy23 kk
    rw [er, k1r] at hal
    refine hal ?_
    refine lv_iload_n hx hb jd_cpy24 rfl (lv_at hl 2 rfl) ?_
    refine va_mmin hx hb hml2 hown (hts _ (List.mem_of_getElem? (i := 64) rfl)) (hts _ (List.mem_of_getElem? (i := 49) rfl)) (hts _ (List.mem_of_getElem? (i := 46) rfl)) (hts _ (List.mem_of_getElem? (i := 50) rfl)) (Nat.le_of_ble_eq_true rfl) (Nat.le_of_ble_eq_true rfl) (Nat.le_of_ble_eq_true rfl) (by show 0 + x.toInt.toNat ≤ x.toInt.toNat; omega) jd_cpy25 ?_
    refine lv_topi (fun v ev => ?_)
    have hv1 : v.toInt ≤ x.toInt ∧ v.toInt ≤ ((M.2.2.2.1 r).2 : Int) ∧ 0 ≤ v.toInt ∧ (v.toInt = x.toInt ∨ v.toInt = ((M.2.2.2.1 r).2 : Int)) := by
      rw [ev]
      by_cases hlt : x < Int32.ofNat (M.2.2.2.1 r).2
      · rw [if_pos hlt]
        rw [o_lt, eN] at hlt
        omega
      · rw [if_neg hlt]
        rw [o_lt, eN] at hlt
        rw [eN]
        omega
    have hcp := fun kk => m_copy (p := p) (l := l) (e := e) (R := (headSpec (jw jyCpy jcCpy 3 (some (.array .int))) ({ frames := 1, cells := 1, slots := x.toInt.toNat, locals := 200 } : Room)).room) (s := s) (m := m) (args := #[.ref (ad r), .int x]) (below := below) (meth := meth) (c := c) (H := H1) (locs := []) (cells := 0 + 1) (slots := 0 + x.toInt.toNat) (Q := MQ below (jQc G ad M r x.toInt.toNat) #[.ref (ad r), .int x] s 1 x.toInt.toNat (xA G)) (ls := ls) (rest := []) (own := jA) (Tg := xTg) (sp := 0) (dp := 0) (n := v) (pc := 28) (cc := jcCpy) hx hb hml2 htA hown hK h0 hR1 hS1 (idx := 150) (jW (List.mem_of_getElem? (i := 65) rfl)) (jW (List.mem_of_getElem? (i := 66) rfl)) (jW (List.mem_of_getElem? (i := 67) rfl)) (jW (List.mem_of_getElem? (i := 68) rfl)) (r := r) (t := M.2.2.2.2.1) (by rw [k1r]; exact hk20) (by rw [k1n]) (Int.le_refl _) (Int.le_refl _) hv1.2.2.1 (by rw [k1r, o_0]; omega) (by rw [k1n, o_0]; show 0 + v.toInt ≤ ((x.toInt.toNat : Nat) : Int); omega) (Nat.le_of_ble_eq_true rfl) (by
        have : nativeFrameWords "java/lang/System" "arraycopy" 5 ≤ 100 := by decide +kernel
        show 0 + _ ≤ 200
        omega) jd_cpy28 kk
    rw [er, en] at hcp
    refine hcp (fun H2 locs2 hR2 hS2 => ?_)
    refine lv_aload_n hx hb jd_cpy31 rfl (lv_at hl 0 rfl) ?_
    have eM : (xcpy M1.1 r (0 : Int32).toInt.toNat M.2.2.2.2.1 (0 : Int32).toInt.toNat v.toInt.toNat, M1.2) = cpM M r x.toInt.toNat := by
      have e1 : xcpy M1.1 r (0 : Int32).toInt.toNat M.2.2.2.2.1 (0 : Int32).toInt.toNat v.toInt.toNat = (cpM M r x.toInt.toNat).1 := by
        funext b j
        show (if b = M.2.2.2.2.1 ∧ 0 ≤ j ∧ j < 0 + v.toInt.toNat then M1.1 r (0 + (j - 0)) else M1.1 b j) = if b = M.2.2.2.2.1 then (if j < x.toInt.toNat ∧ j < (M.2.2.2.1 r).2 then M.1 r j else 0) else M.1 b j
        have m1 : ∀ b' j', M1.1 b' j' = zr M.1 M.2.2.2.2.1 b' j' := fun b' j' => by rw [hM1]
        rw [m1, m1]
        by_cases hb' : b = M.2.2.2.2.1
        · rw [if_pos hb']
          by_cases hj : j < x.toInt.toNat ∧ j < (M.2.2.2.1 r).2
          · rw [if_pos hj, if_pos ⟨hb', by omega, by omega⟩, zr_n hnx, show 0 + (j - 0) = j by omega]
          · rw [if_neg hj, if_neg (fun hh => hj (by omega)), hb']
            exact if_pos rfl
        · rw [if_neg hb', if_neg (fun hh => hb' hh.1), zr_n hb']
      rw [e1, hM1]
      rfl
    rw [eM] at hR2
    refine W.widen (k := 1) (n := x.toInt.toNat) (by omega) (by omega) ?_
    exact W.aret (rt := .array .int) hx hb hr (Or.inr ⟨_, rfl⟩) (Or.inr ⟨_, rfl⟩) (fun t ht hW => ⟨q, rfl, by rw [ht]; exact hR2, hS2.F ht⟩) hS2.2.2 jd_cpy32 hlocks
  · -- the same length: a clone
    have ex : x.toInt = ((M.2.2.2.1 r).2 : Int) := by rw [heq]; exact eN
    have hat := xws_at (cl := tcl xTab2) (ca := G.2.1) (ad := ad) (S := tS xTab2) (M := M) g1 g2
    rw [xcell_int hk20 (Or.inl rfl)] at hat
    have hnm : s.vm.findClass "[I" = some (G.2.1 20) := va_nm_int (hK.2 0 (G.2.1 20, .int) rfl).2
    refine lv_aload_n hx hb jd_cpy6 rfl (lv_at hl 0 rfl) ?_
    refine va_clone (D := G.1) (cl := tcl xTab2) (A := fun q => G.2.2.1 ≤ q) (H0 := s.heap) (ty := .int) hx hb hml' hown (hts _ (List.mem_of_getElem? (i := 57) rfl)) (hts _ (List.mem_of_getElem? (i := 58) rfl)) (hts _ (List.mem_of_getElem? (i := 59) rfl)) (hts _ (List.mem_of_getElem? (i := 60) rfl)) (hts _ (List.mem_of_getElem? (i := 61) rfl)) hcl hK hR.2.1 hR.2.2.1 hS (fun q hq => Nat.le_trans hA hq) (r - tS xTab2) 0 hat rfl hnm (va_fit fun i _ => rfl) (Nat.le_of_ble_eq_true rfl) (Nat.le_of_ble_eq_true rfl) (Nat.le_of_ble_eq_true rfl) (by show 0 + (M.2.2.2.1 r).2 ≤ x.toInt.toNat; omega) jd_cpy7 (fun q H1 hK1 hP1 hD1 hS1 => ?_)
    refine va_castA hx hb hown (hts _ (List.mem_of_getElem? (i := 62) rfl)) hP1 (xws (tcl xTab2) G.2.1 ad (tS xTab2) M).length List.getElem?_concat_length hnm jd_cpy10 ?_
    have hM' : ∀ j, (cpM M r x.toInt.toNat).1 M.2.2.2.2.1 j = if j < x.toInt.toNat ∧ j < (M.2.2.2.1 r).2 then M.1 r j else 0 := fun j => if_pos rfl
    have hk' : (cpM M r x.toInt.toNat).2.2.2.1 M.2.2.2.2.1 = (20, x.toInt.toNat) := up1_at (f := M.2.2.2.1) (a := M.2.2.2.2.1) (z := (20, x.toInt.toNat))
    have hrel : xRelT xTab2 G (up1 ad M.2.2.2.2.1 q) (cpM M r x.toInt.toNat) H1 := by
      refine hR.push (M' := cpM M r x.toInt.toNat) (q := q) rfl (fun b hb' => up1_n (f := M.2.2.2.1) hb') (fun b j hb' => if_neg hb') (fun b j hb' => by show zr M.2.1 M.2.2.2.2.1 b j = _; rw [zr_n hb']) (fun b j hb' => by show zrR M.2.2.1 M.2.2.2.2.1 b j = _; rw [zrR_n hb']) (fun j => ?_) (fun j => ?_) (fun j => ?_) ⟨?_, ?_⟩ (xcell_int (t := 20) (by rw [hk']) (Or.inl rfl)) ?_ ?_
      · rw [hM']
        split
        · exact hR.2.2.2.1 r j
        · exact r32_0
      · show r64 (zr M.2.1 M.2.2.2.2.1 M.2.2.2.2.1 j)
        rw [show zr M.2.1 M.2.2.2.2.1 M.2.2.2.2.1 j = 0 from if_pos rfl]
        exact r64_0
      · exact if_pos rfl
      · rw [hk']; simp [xtag]
      · rw [hk']; show x.toInt.toNat < 2147483648; omega
      · rw [hk']
        have e2 : x.toInt.toNat = (M.2.2.2.1 r).2 := by omega
        rw [e2]
        refine va_P_last hP1 (fun j hj => ?_)
        have hj : j < (M.2.2.2.1 r).2 := hj
        have hM2 := hM' j
        rw [e2] at hM2
        rw [hM2, if_pos ⟨hj, hj⟩]
      · exact va_D_last hD1
    refine W.widen (k := 1) (n := x.toInt.toNat) (by omega) (by show 0 + (M.2.2.2.1 r).2 ≤ _; omega) ?_
    exact W.aret (rt := .array .int) hx hb hr (Or.inr ⟨_, rfl⟩) (Or.inr ⟨_, rfl⟩) (fun t ht hW => ⟨q, rfl, by rw [ht]; exact hrel, hS1.F ht⟩) hS1.2.2 jd_cpy13 hlocks
end JDK4
