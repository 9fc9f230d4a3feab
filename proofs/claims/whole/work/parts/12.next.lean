section NEXT
variable {T : xTT} {G : xG} {l : Launch} {y : Nat}
variable {p : Program} {e : Env} {R : Room} {s : State} {m : MethodId} {args : Array Value} {below : List Frame} {meth : Method} {c : Code} {H : Heap} {locs : List Loc} {cells slots : Nat} {Q : State → Prop}
variable {pc : Nat} {ls : Array Slot} {st : List Value} {ad : Nat → Nat} {M M' : xM} {als als' ast ast' : List xV} {pc' nL : Nat}
set_option maxHeartbeats 4000000 in
/-- numbers, locals and the stack -/
theorem xs_pure (hT : xOK T) {ins : Instr} {len a b c0 : Nat} {z : Int} {g : List Prop} (hs : xstep (pc, ins, len, a, b, c0, z) als ast M = some (.inl (pc', als', ast', M'), g)) (hg : xall g) (hL : xLk T y (pc, ins, len, a, b, c0, z))
    (hC : xCx T l y p s m args meth c) (hGr : xGr T G s s.heap) (hR : xRelT T G ad M H) (hl : xRL ad M.2.2.2.2.1 nL ls als) (hst : xRS ad M.2.2.2.2.1 st ast) (hS : va_S (xA G) s.heap H locs)
    (kk : xKK T G l p e R s m args below meth c Q nL ad M cells slots pc' als' ast' M')
    (hi : xIsPure ins) : W p l e R s m args below meth c H locs cells slots Q (F0 m pc ls st) := by
  obtain ⟨hx, hb, hr, hown, hts, hlocks, hml, htab, hname, htr⟩ := hC
  obtain ⟨hd, hL⟩ := hL
  dsimp only at hd
  have hD : decode c.code pc = .ok (ins, len) := by rw [hb]; exact hd
  cases ins <;> first | exact False.elim hi | skip
  case iconst n =>
    obtain ⟨e1, e2⟩ := hL
    subst e1
    obtain ⟨e3, -⟩ := q_nx hs
    cases e3
    exact lv_iconst (v := Int32.ofInt n) hx rfl hD rfl (kk.same hR hS hl (hst.i (i32_of e2)))
  case bipush n =>
    obtain ⟨e1, e4, e2⟩ := hL
    subst e1
    obtain ⟨e3, -⟩ := q_nx hs
    cases e3
    exact lv_bipush (v := Int32.ofInt n) hx rfl hD e4 (kk.same hR hS hl (hst.i (i32_of e2)))
  case sipush n =>
    obtain ⟨e1, e4, e2⟩ := hL
    subst e1
    obtain ⟨e3, -⟩ := q_nx hs
    cases e3
    exact lv_sipush (v := Int32.ofInt n) hx rfl hD e4 (kk.same hR hS hl (hst.i (i32_of e2)))
  case ldc2_w n =>
    obtain ⟨e1, e2, e4⟩ := hL
    subst e1
    obtain ⟨e3, -⟩ := q_nx hs
    cases e3
    exact lv_ldc2 (v := Int64.ofInt z) hx rfl hown (hts _ e4) hD (kk.same hR hS hl (hst.l (i64_of e2)))
  case lconst n =>
    have e1 : len = 1 := hL
    subst e1
    obtain ⟨e3, -⟩ := q_nx hs
    cases e3
    refine lv_lconst (v := Int64.ofNat (n : Nat)) hx rfl hD rfl (kk.same hR hS hl (hst.l ?_))
    have : (n : Nat) = 0 ∨ (n : Nat) = 1 := by omega
    rcases this with h | h <;> rw [h] <;> rfl
  case iload i =>
    have e1 : len = 2 := hL
    subst e1
    obtain ⟨x, e2, e3⟩ := q_ldI hs
    cases e3
    obtain ⟨w, e4, e5⟩ := hl.gi e2
    exact lv_iload hx rfl hD e4 (kk.same hR hS hl (hst.i e5))
  case iload_n i =>
    have e1 : len = 1 := hL
    subst e1
    obtain ⟨x, e2, e3⟩ := q_ldI hs
    cases e3
    obtain ⟨w, e4, e5⟩ := hl.gi e2
    exact lv_iload_n hx rfl hD rfl e4 (kk.same hR hS hl (hst.i e5))
  case lload i =>
    have e1 : len = 2 := hL
    subst e1
    obtain ⟨x, e2, e3⟩ := q_ldL hs
    cases e3
    obtain ⟨w, e4, e5⟩ := hl.gl e2
    exact lv_lload hx rfl hD e4 (kk.same hR hS hl (hst.l e5))
  case lload_n i =>
    have e1 : len = 1 := hL
    subst e1
    obtain ⟨x, e2, e3⟩ := q_ldL hs
    cases e3
    obtain ⟨w, e4, e5⟩ := hl.gl e2
    exact lv_lload_n hx rfl hD rfl e4 (kk.same hR hS hl (hst.l e5))
  case aload i =>
    have e1 : len = 2 := hL
    subst e1
    obtain ⟨x, e2, e3, e6⟩ := q_ldA hs
    cases e3
    subst e6
    obtain ⟨e4, e5⟩ := hl.gr e2 hg
    exact lv_aload hx rfl hD e4 (kk.same hR hS hl (hst.r hg e5))
  case aload_n i =>
    have e1 : len = 1 := hL
    subst e1
    obtain ⟨x, e2, e3, e6⟩ := q_ldA hs
    cases e3
    subst e6
    obtain ⟨e4, e5⟩ := hl.gr e2 hg
    exact lv_aload_n hx rfl hD rfl e4 (kk.same hR hS hl (hst.r hg e5))
  case istore i =>
    have e1 : len = 2 := hL
    subst e1
    obtain ⟨x, r, e2, e3, e6⟩ := q_stI hs
    cases e3
    subst e2; subst e6
    obtain ⟨w, vs, rfl, e5, hst2⟩ := hst.i1
    obtain ⟨ls', e7, e8⟩ := hl.set1 (i := i) (v := .int w) (x := vi x) hg ⟨w, rfl, e5⟩ rfl
    intro T0 hT0 X
    obtain ⟨t, a1, b1⟩ := kk.same hR hS e8 hst2 T0 hT0 X
    refine ⟨t, ?_, b1⟩
    jvm_step X.here [X.here.top, ↓top_set X.here.top, hx, hD, e7]
    exact a1
  case istore_n i =>
    have e1 : len = 1 := hL
    subst e1
    obtain ⟨x, r, e2, e3, e6⟩ := q_stI hs
    cases e3
    subst e2; subst e6
    obtain ⟨w, vs, rfl, e5, hst2⟩ := hst.i1
    obtain ⟨ls', e7, e8⟩ := hl.set1 (i := i) (v := .int w) (x := vi x) hg ⟨w, rfl, e5⟩ rfl
    intro T0 hT0 X
    obtain ⟨t, a1, b1⟩ := kk.same hR hS e8 hst2 T0 hT0 X
    refine ⟨t, ?_, b1⟩
    jvm_step X.here [X.here.top, ↓top_set X.here.top, hx, hD, e7]
    exact a1
  case lstore i =>
    have e1 : len = 2 := hL
    subst e1
    obtain ⟨x, r, e2, e3, e6⟩ := q_stL hs
    cases e3
    subst e2; subst e6
    obtain ⟨w, vs, rfl, e5, hst2⟩ := hst.l1
    obtain ⟨ls', e7, e8⟩ := hl.set2 (i := i) (v := .long w) (x := vl x) hg ⟨w, rfl, e5⟩ rfl
    intro T0 hT0 X
    obtain ⟨t, a1, b1⟩ := kk.same hR hS e8 hst2 T0 hT0 X
    refine ⟨t, ?_, b1⟩
    jvm_step X.here [X.here.top, ↓top_set X.here.top, hx, hD, e7]
    exact a1
  case lstore_n i =>
    have e1 : len = 1 := hL
    subst e1
    obtain ⟨x, r, e2, e3, e6⟩ := q_stL hs
    cases e3
    subst e2; subst e6
    obtain ⟨w, vs, rfl, e5, hst2⟩ := hst.l1
    obtain ⟨ls', e7, e8⟩ := hl.set2 (i := i) (v := .long w) (x := vl x) hg ⟨w, rfl, e5⟩ rfl
    intro T0 hT0 X
    obtain ⟨t, a1, b1⟩ := kk.same hR hS e8 hst2 T0 hT0 X
    refine ⟨t, ?_, b1⟩
    jvm_step X.here [X.here.top, ↓top_set X.here.top, hx, hD, e7]
    exact a1
  case astore i =>
    have e1 : len = 2 := hL
    subst e1
    obtain ⟨x, r, e2, e3, e6⟩ := q_stA hs
    cases e3
    subst e2; subst e6
    obtain ⟨w, vs, rfl, e5, hst2⟩ := hst.a1
    obtain ⟨ls', e7, e8⟩ := hl.set1 (i := i) (v := .ref w) (x := vr x) hg e5 rfl
    intro T0 hT0 X
    obtain ⟨t, a1, b1⟩ := kk.same hR hS e8 hst2 T0 hT0 X
    refine ⟨t, ?_, b1⟩
    jvm_step X.here [X.here.top, ↓top_set X.here.top, hx, hD, e7]
    exact ⟨rfl, a1⟩
  case astore_n i =>
    have e1 : len = 1 := hL
    subst e1
    obtain ⟨x, r, e2, e3, e6⟩ := q_stA hs
    cases e3
    subst e2; subst e6
    obtain ⟨w, vs, rfl, e5, hst2⟩ := hst.a1
    obtain ⟨ls', e7, e8⟩ := hl.set1 (i := i) (v := .ref w) (x := vr x) hg e5 rfl
    intro T0 hT0 X
    obtain ⟨t, a1, b1⟩ := kk.same hR hS e8 hst2 T0 hT0 X
    refine ⟨t, ?_, b1⟩
    jvm_step X.here [X.here.top, ↓top_set X.here.top, hx, hD, e7]
    exact ⟨rfl, a1⟩
  case iinc i n =>
    have e1 : len = 3 := hL
    subst e1
    simp only [xstep] at hs
    split at hs
    · rename_i x hxi
      obtain ⟨e3, -⟩ := q_nx hs
      cases e3
      obtain ⟨w, e4, e5⟩ := hl.gi hxi
      obtain ⟨ls', e7, e8⟩ := hl.inc (v := .int (w + Int32.ofInt n)) (x := vi (wr (x + n))) hxi (by intro q; cases q) rfl ⟨_, rfl, by rw [o_inc, e5]⟩ rfl
      intro T0 hT0 X
      obtain ⟨t, a1, b1⟩ := kk.same hR hS e8 hst T0 hT0 X
      refine ⟨t, ?_, b1⟩
      jvm_step X.here [X.here.top, ↓top_set X.here.top, hx, hD, e4, e7]
      exact a1
    · cases hs
  case iadd =>
    have e1 : len = 1 := hL
    subst e1
    obtain ⟨x, y, r, e2, e3⟩ := q_II hs
    cases e3; subst e2
    obtain ⟨wy, vs, rfl, ey, hst2⟩ := hst.i1
    obtain ⟨wx, vs2, rfl, ex, hst3⟩ := hst2.i1
    exact lv_iadd hx rfl hD (kk.same hR hS hl (hst3.i (by rw [o_add, ex, ey])))
  case isub =>
    have e1 : len = 1 := hL
    subst e1
    obtain ⟨x, y, r, e2, e3⟩ := q_II hs
    cases e3; subst e2
    obtain ⟨wy, vs, rfl, ey, hst2⟩ := hst.i1
    obtain ⟨wx, vs2, rfl, ex, hst3⟩ := hst2.i1
    exact lv_isub hx rfl hD (kk.same hR hS hl (hst3.i (by rw [o_sub, ex, ey])))
  case imul =>
    have e1 : len = 1 := hL
    subst e1
    obtain ⟨x, y, r, e2, e3⟩ := q_II hs
    cases e3; subst e2
    obtain ⟨wy, vs, rfl, ey, hst2⟩ := hst.i1
    obtain ⟨wx, vs2, rfl, ex, hst3⟩ := hst2.i1
    exact lv_imul hx rfl hD (kk.same hR hS hl (hst3.i (by rw [o_mul, ex, ey])))
  case iand =>
    have e1 : len = 1 := hL
    subst e1
    obtain ⟨x, y, r, e2, e3⟩ := q_II hs
    cases e3; subst e2
    obtain ⟨wy, vs, rfl, ey, hst2⟩ := hst.i1
    obtain ⟨wx, vs2, rfl, ex, hst3⟩ := hst2.i1
    exact lv_iand hx rfl hD (kk.same hR hS hl (hst3.i (by rw [o_and, ex, ey])))
  case ior =>
    have e1 : len = 1 := hL
    subst e1
    obtain ⟨x, y, r, e2, e3⟩ := q_II hs
    cases e3; subst e2
    obtain ⟨wy, vs, rfl, ey, hst2⟩ := hst.i1
    obtain ⟨wx, vs2, rfl, ex, hst3⟩ := hst2.i1
    exact lv_ior hx rfl hD (kk.same hR hS hl (hst3.i (by rw [o_or, ex, ey])))
  case ixor =>
    have e1 : len = 1 := hL
    subst e1
    obtain ⟨x, y, r, e2, e3⟩ := q_II hs
    cases e3; subst e2
    obtain ⟨wy, vs, rfl, ey, hst2⟩ := hst.i1
    obtain ⟨wx, vs2, rfl, ex, hst3⟩ := hst2.i1
    exact lv_ixor hx rfl hD (kk.same hR hS hl (hst3.i (by rw [o_xor, ex, ey])))
  case ishl =>
    have e1 : len = 1 := hL
    subst e1
    obtain ⟨x, y, r, e2, e3⟩ := q_II hs
    cases e3; subst e2
    obtain ⟨wy, vs, rfl, ey, hst2⟩ := hst.i1
    obtain ⟨wx, vs2, rfl, ex, hst3⟩ := hst2.i1
    exact lv_ishl hx rfl hD (kk.same hR hS hl (hst3.i (by rw [o_shl, ex, ey])))
  case ishr =>
    have e1 : len = 1 := hL
    subst e1
    obtain ⟨x, y, r, e2, e3⟩ := q_II hs
    cases e3; subst e2
    obtain ⟨wy, vs, rfl, ey, hst2⟩ := hst.i1
    obtain ⟨wx, vs2, rfl, ex, hst3⟩ := hst2.i1
    exact lv_ishr hx rfl hD (kk.same hR hS hl (hst3.i (by rw [o_shr, ex, ey])))
  case iushr =>
    have e1 : len = 1 := hL
    subst e1
    obtain ⟨x, y, r, e2, e3⟩ := q_II hs
    cases e3; subst e2
    obtain ⟨wy, vs, rfl, ey, hst2⟩ := hst.i1
    obtain ⟨wx, vs2, rfl, ex, hst3⟩ := hst2.i1
    exact lv_iushr hx rfl hD rfl (kk.same hR hS hl (hst3.i (by rw [o_ushr, ex, ey])))
  case idiv =>
    have e1 : len = 1 := hL
    subst e1
    simp only [xstep] at hs
    split at hs
    · obtain ⟨e3, e6⟩ := q_nx hs
      cases e3; subst e6
      obtain ⟨wy, vs, rfl, ey, hst2⟩ := hst.i1
      obtain ⟨wx, vs2, rfl, ex, hst3⟩ := hst2.i1
      exact lv_idiv hx rfl hD (fun q => hg (by rw [← ey, q]; rfl)) (kk.same hR hS hl (hst3.i (by rw [o_div, ex, ey])))
    · cases hs
  case irem =>
    have e1 : len = 1 := hL
    subst e1
    simp only [xstep] at hs
    split at hs
    · obtain ⟨e3, e6⟩ := q_nx hs
      cases e3; subst e6
      obtain ⟨wy, vs, rfl, ey, hst2⟩ := hst.i1
      obtain ⟨wx, vs2, rfl, ex, hst3⟩ := hst2.i1
      have h0 : ¬ wy = 0 := fun q => hg (by rw [← ey, q]; rfl)
      exact lv_irem hx rfl hD h0 (kk.same hR hS hl (hst3.i (by rw [o_rem _ _ h0, ex, ey])))
    · cases hs
  case ineg =>
    have e1 : len = 1 := hL
    subst e1
    simp only [xstep] at hs
    split at hs
    · obtain ⟨e3, e6⟩ := q_nx hs
      cases e3
      obtain ⟨wx, vs, rfl, ex, hst2⟩ := hst.i1
      exact lv_ineg hx rfl hD (kk.same hR hS hl (hst2.i (by rw [o_neg, ex])))
    · cases hs
  case ladd =>
    have e1 : len = 1 := hL
    subst e1
    obtain ⟨x, y, r, e2, e3⟩ := q_LL hs
    cases e3; subst e2
    obtain ⟨wy, vs, rfl, ey, hst2⟩ := hst.l1
    obtain ⟨wx, vs2, rfl, ex, hst3⟩ := hst2.l1
    exact lv_ladd hx rfl hD (kk.same hR hS hl (hst3.l (by rw [o_ladd, ex, ey])))
  case lmul =>
    have e1 : len = 1 := hL
    subst e1
    obtain ⟨x, y, r, e2, e3⟩ := q_LL hs
    cases e3; subst e2
    obtain ⟨wy, vs, rfl, ey, hst2⟩ := hst.l1
    obtain ⟨wx, vs2, rfl, ex, hst3⟩ := hst2.l1
    exact lv_lmul hx rfl hD (kk.same hR hS hl (hst3.l (by rw [o_lmul, ex, ey])))
  case land =>
    have e1 : len = 1 := hL
    subst e1
    obtain ⟨x, y, r, e2, e3⟩ := q_LL hs
    cases e3; subst e2
    obtain ⟨wy, vs, rfl, ey, hst2⟩ := hst.l1
    obtain ⟨wx, vs2, rfl, ex, hst3⟩ := hst2.l1
    exact lv_land hx rfl hD (kk.same hR hS hl (hst3.l (by rw [o_land, ex, ey])))
  case lor =>
    have e1 : len = 1 := hL
    subst e1
    obtain ⟨x, y, r, e2, e3⟩ := q_LL hs
    cases e3; subst e2
    obtain ⟨wy, vs, rfl, ey, hst2⟩ := hst.l1
    obtain ⟨wx, vs2, rfl, ex, hst3⟩ := hst2.l1
    exact lv_lor hx rfl hD (kk.same hR hS hl (hst3.l (by rw [o_lor, ex, ey])))
  case ldiv =>
    have e1 : len = 1 := hL
    subst e1
    simp only [xstep] at hs
    split at hs
    · obtain ⟨e3, e6⟩ := q_nx hs
      cases e3; subst e6
      obtain ⟨wy, vs, rfl, ey, hst2⟩ := hst.l1
      obtain ⟨wx, vs2, rfl, ex, hst3⟩ := hst2.l1
      exact lv_ldiv hx rfl hD (fun q => hg (by rw [← ey, q]; rfl)) (kk.same hR hS hl (hst3.l (by rw [o_ldiv, ex, ey])))
    · cases hs
  case lshl =>
    have e1 : len = 1 := hL
    subst e1
    simp only [xstep] at hs
    split at hs
    · obtain ⟨e3, e6⟩ := q_nx hs
      cases e3
      obtain ⟨wy, vs, rfl, ey, hst2⟩ := hst.i1
      obtain ⟨wx, vs2, rfl, ex, hst3⟩ := hst2.l1
      exact lv_lshl hx rfl hD rfl (kk.same hR hS hl (hst3.l (by rw [o_lshl, ex, ey])))
    · cases hs
  case lcmp =>
    have e1 : len = 1 := hL
    subst e1
    simp only [xstep] at hs
    split at hs
    · obtain ⟨e3, e6⟩ := q_nx hs
      cases e3
      obtain ⟨wy, vs, rfl, ey, hst2⟩ := hst.l1
      obtain ⟨wx, vs2, rfl, ex, hst3⟩ := hst2.l1
      refine W.lcmp hx rfl hD (kk.same hR hS hl (hst3.i ?_))
      unfold xcmp
      rw [← ex, ← ey]
      by_cases h1 : wy < wx
      · have e9 : lg_cmp wx wy = 1 := by simp [lg_cmp, h1]
        have h2 := Int64.lt_iff_toInt_lt.mp h1
        rw [e9, if_neg (by omega), if_neg (by omega)]
        rfl
      · have h2 : ¬ wy.toInt < wx.toInt := fun q => h1 (Int64.lt_iff_toInt_lt.mpr q)
        by_cases h3 : wx = wy
        · have e9 : lg_cmp wx wy = 0 := by simp [lg_cmp, h3]
          rw [e9, h3, if_neg (by omega), if_pos rfl]
          rfl
        · have e9 : lg_cmp wx wy = -1 := by simp [lg_cmp, h1, h3]
          have h4 : wx.toInt ≠ wy.toInt := fun q => h3 (Int64.toInt.inj q)
          rw [e9, if_pos (by omega)]
          rfl
    · cases hs
  case i2l =>
    have e1 : len = 1 := hL
    subst e1
    simp only [xstep] at hs
    split at hs
    · obtain ⟨e3, e6⟩ := q_nx hs
      cases e3
      obtain ⟨wx, vs, rfl, ex, hst2⟩ := hst.i1
      exact lv_i2l hx rfl hD rfl (kk.same hR hS hl (hst2.l (by rw [o_i2l, ex])))
    · cases hs
  case l2i =>
    have e1 : len = 1 := hL
    subst e1
    simp only [xstep] at hs
    split at hs
    · obtain ⟨e3, e6⟩ := q_nx hs
      cases e3
      obtain ⟨wx, vs, rfl, ex, hst2⟩ := hst.l1
      exact lv_l2i hx rfl hD rfl (kk.same hR hS hl (hst2.i (by rw [o_l2i, ex])))
    · cases hs
  case i2c =>
    have e1 : len = 1 := hL
    subst e1
    simp only [xstep] at hs
    split at hs
    · obtain ⟨e3, e6⟩ := q_nx hs
      cases e3
      obtain ⟨wx, vs, rfl, ex, hst2⟩ := hst.i1
      exact lv_i2c hx rfl hD rfl (kk.same hR hS hl (hst2.i (by rw [o_i2c, ex])))
    · cases hs
  case pop =>
    have e1 : len = 1 := hL
    subst e1
    simp only [xstep] at hs
    split at hs
    · obtain ⟨e3, e6⟩ := q_nx hs
      cases e3
      obtain ⟨wx, vs, rfl, ex, hst2⟩ := hst.i1
      exact lv_pop hx rfl hD rfl (kk.same hR hS hl hst2)
    · obtain ⟨e3, e6⟩ := q_nx hs
      cases e3
      obtain ⟨wx, vs, rfl, ex, hst2⟩ := hst.a1
      exact lv_pop hx rfl hD rfl (kk.same hR hS hl hst2)
    · cases hs
  case dup =>
    have e1 : len = 1 := hL
    subst e1
    simp only [xstep] at hs
    split at hs
    · obtain ⟨e3, e6⟩ := q_nx hs
      cases e3
      obtain ⟨wx, vs, rfl, ex, hst2⟩ := hst.i1
      exact lv_dup hx rfl hD rfl (kk.same hR hS hl ((hst2.i ex).i ex))
    · obtain ⟨e3, e6⟩ := q_nx hs
      cases e3
      obtain ⟨wx, vs, rfl, ex, hst2⟩ := hst.a1
      exact lv_dup hx rfl hD rfl (kk.same hR hS hl ⟨ex, ex, hst2⟩)
    · cases hs
  case dup2 =>
    have e1 : len = 1 := hL
    subst e1
    simp only [xstep] at hs
    split at hs
    · obtain ⟨e3, e6⟩ := q_nx hs
      cases e3
      obtain ⟨wx, vs, rfl, ex, hst2⟩ := hst.i1
      obtain ⟨wq, vs2, rfl, eq, hst3⟩ := hst2.a1
      exact lv_dup2_11 hx rfl hD rfl rfl (kk.same hR hS hl ⟨⟨wx, rfl, ex⟩, eq, ⟨wx, rfl, ex⟩, eq, hst3⟩)
    · cases hs
end NEXT
