/-! ===== MAKINGS AND COPIES ===== -/
section NEWS
variable {p : Program} {l : Launch} {e : Env} {R : Room} {s : State} {m : MethodId} {args : Array Value} {below : List Frame} {meth : Method} {c : Code} {H : Heap} {locs : List Loc} {cells slots : Nat} {Q : State → Prop}
variable {cc : ByteArray} {pc : Nat} {ls : Array Slot} {rest : List Value} {own : String}
variable {cl : List vw_C} {Tg : List Cond} {G : xG} {S : Nat} {K0 : Nat → Nat × Nat} {V0 : xF} {ad0 ad : Nat → Nat} {M : xM}
theorem r32_0 : r32 0 := by unfold r32; omega
theorem r64_0 : r64 0 := by unfold r64; omega
theorem xdef (ty : FieldType) (k : Nat) (h : xtyk ty = k) (hk : k ≠ 9) (ad : Nat → Nat) (M' : xM) (a j : Nat) (h1 : M'.1 a j = 0) (h2 : M'.2.1 a j = 0) (h3 : M'.2.2.1 a j = 0) : defaultValue ty = xfv ad M' a j k := by
  subst h
  unfold xfv xref
  rw [h1, h2, h3]
  cases ty <;> first | rfl | exact absurd rfl hk
theorem xfk_9 (d : String) : xfk d ≠ 9 := by
  unfold xfk
  repeat' split
  all_goals decide
theorem m_new (hx : p.tables.exec = Jvm.exec) (hb : c.code = cc) (hts : ∀ w ∈ Tg, w.before args s = true) (hcl : xClOK cl Tg) (hown : s.vm.findClass own = some m.cls) (hK : va_K G.1 cl (xtys G) s) (hR : xRel cl G S K0 V0 ad0 ad M H) (hS : va_S (fun q => G.2.2.1 ≤ q) s.heap H locs) (hA : G.2.2.1 ≤ s.heap.size)
    {cn idx N : Nat} {C : String} {T : u_T} (hc : cl[cn]? = some (C, T, N)) (w1 : Cond.classLink own idx C ∈ Tg) (w2 : Cond.instantiable C N ∈ Tg) (w3 : Cond.initialized C ∈ Tg) (hcells : cells + 1 ≤ R.cells) (hslots : slots + N ≤ R.slots) (hdg : decode cc pc = .ok (.new idx, 3))
    (kk : ∀ (q : Nat) (H1 : Heap), xRel cl G S K0 V0 ad0 (up1 ad M.2.2.2.2.1 q) (zr M.1 M.2.2.2.2.1, zr M.2.1 M.2.2.2.2.1, zrR M.2.2.1 M.2.2.2.2.1, up1 M.2.2.2.1 M.2.2.2.2.1 (cn + 1, 0), M.2.2.2.2.1 + 1, M.2.2.2.2.2.1 + 1, M.2.2.2.2.2.2 + N) H1 → va_S (fun q => G.2.2.1 ≤ q) s.heap H1 locs →
      W p l e R s m args below meth c H1 locs (cells + 1) (slots + N) Q (F0 m (pc + 3) ls (.ref q :: rest))) : W p l e R s m args below meth c H locs cells slots Q (F0 m pc ls rest) := by
  have hcn : cn < cl.length := (List.getElem?_eq_some_iff.mp hc).1
  have h20 := hcl.1
  obtain ⟨c1, ⟨ty, c2⟩, c3⟩ := hcl.2 cn _ hc
  obtain ⟨M', hM'⟩ : ∃ M' : xM, M' = (zr M.1 M.2.2.2.2.1, zr M.2.1 M.2.2.2.2.1, zrR M.2.2.1 M.2.2.2.2.1, up1 M.2.2.2.1 M.2.2.2.2.1 (cn + 1, 0), M.2.2.2.2.1 + 1, M.2.2.2.2.2.1 + 1, M.2.2.2.2.2.2 + N) := ⟨_, rfl⟩
  have e1 : ∀ j, M'.1 M.2.2.2.2.1 j = 0 := fun j => by rw [hM']; exact if_pos rfl
  have e2 : ∀ j, M'.2.1 M.2.2.2.2.1 j = 0 := fun j => by rw [hM']; exact if_pos rfl
  have e3 : ∀ j, M'.2.2.1 M.2.2.2.2.1 j = 0 := fun j => by rw [hM']; exact if_pos rfl
  have eK : (M'.2.2.2.1 M.2.2.2.2.1).1 = cn + 1 := by rw [hM']; show (up1 M.2.2.2.1 M.2.2.2.2.1 (cn + 1, 0) M.2.2.2.2.1).1 = cn + 1; unfold up1; rw [if_pos rfl]
  rw [← hM'] at kk
  refine va_new (D := G.1) (ci := cn) (C := C) (T := T) (N := N) (index := idx) (fs := (List.range N).map (fun j => xfv id M' M.2.2.2.2.1 j (xfk (T j).2.2.1))) hx hb hts c1 ty (fun k hk => (c2 k hk).1) hown (hts _ w1) (hts _ w2) (hts _ w3) hK hR.2.1 hR.2.2.1 hS (fun q hq => Nat.le_trans hA hq) hc ?_ hcells hslots hdg (fun q H1 hP1 hD1 hS1 => kk q H1 ?_ hS1)
  · intro j hj
    unfold vp_V
    rw [List.getD_eq_getElem?_getD, List.getElem?_map, List.getElem?_range hj]
    exact xdef (ty j) _ (c2 j hj).2 (xfk_9 _) _ _ _ _ (e1 j) (e2 j) (e3 j)
  · refine hR.push (M' := M') (q := q) (by rw [hM']) (fun b hb => by rw [hM']; exact if_neg hb) (fun b j hb => by rw [hM']; exact if_neg hb) (fun b j hb => by rw [hM']; exact if_neg hb) (fun b j hb => by rw [hM']; exact if_neg hb) (fun j => by rw [e1]; exact r32_0) (fun j => by rw [e2]; exact r64_0) e3 ⟨by rw [eK]; exact Or.inl ⟨by omega, by omega⟩, by rw [hM']; show (up1 M.2.2.2.1 M.2.2.2.2.1 (cn + 1, 0) M.2.2.2.2.1).2 < _; unfold up1; rw [if_pos rfl]; exact (by decide : (0 : Nat) < 2147483648)⟩ ?_ hP1 hD1
    rw [xcell_obj hc (by omega) eK]
    congr 2
    apply List.map_congr_left
    intro j hj
    unfold xfv xref
    rw [e3, if_pos rfl, if_pos rfl]
theorem m_newa (hx : p.tables.exec = Jvm.exec) (hb : c.code = cc) (hts : ∀ w ∈ Tg, w.before args s = true) (hK : va_K G.1 cl (xtys G) s) (hR : xRel cl G S K0 V0 ad0 ad M H) (hS : va_S (fun q => G.2.2.1 ≤ q) s.heap H locs) (hA : G.2.2.1 ≤ s.heap.size)
    {atype : ArrayType} {t : Nat} (hat : (t = 20 ∧ atype = .int) ∨ (t = 22 ∧ atype = .long) ∨ (t = 23 ∧ atype = .boolean)) (harr : Cond.arrayClass (newarray.typeOf atype) ∈ Tg) {n : Int32} (hn : 0 ≤ n.toInt ∧ n.toInt ≤ 60000000)
    (hcells : cells + 1 ≤ R.cells) (hslots : slots + n.toInt.toNat ≤ R.slots) (hdg : decode cc pc = .ok (.newarray atype, 2))
    (kk : ∀ (q : Nat) (H1 : Heap), xRel cl G S K0 V0 ad0 (up1 ad M.2.2.2.2.1 q) (zr M.1 M.2.2.2.2.1, zr M.2.1 M.2.2.2.2.1, zrR M.2.2.1 M.2.2.2.2.1, up1 M.2.2.2.1 M.2.2.2.2.1 (t, n.toInt.toNat), M.2.2.2.2.1 + 1, M.2.2.2.2.2.1 + 1, M.2.2.2.2.2.2 + n.toInt.toNat) H1 → va_S (fun q => G.2.2.1 ≤ q) s.heap H1 locs →
      W p l e R s m args below meth c H1 locs (cells + 1) (slots + n.toInt.toNat) Q (F0 m (pc + 2) ls (.ref q :: rest))) : W p l e R s m args below meth c H locs cells slots Q (F0 m pc ls (.int n :: rest)) := by
  obtain ⟨M', hM'⟩ : ∃ M' : xM, M' = (zr M.1 M.2.2.2.2.1, zr M.2.1 M.2.2.2.2.1, zrR M.2.2.1 M.2.2.2.2.1, up1 M.2.2.2.1 M.2.2.2.2.1 (t, n.toInt.toNat), M.2.2.2.2.1 + 1, M.2.2.2.2.2.1 + 1, M.2.2.2.2.2.2 + n.toInt.toNat) := ⟨_, rfl⟩
  have e1 : ∀ j, M'.1 M.2.2.2.2.1 j = 0 := fun j => by rw [hM']; exact if_pos rfl
  have e2 : ∀ j, M'.2.1 M.2.2.2.2.1 j = 0 := fun j => by rw [hM']; exact if_pos rfl
  have e3 : ∀ j, M'.2.2.1 M.2.2.2.2.1 j = 0 := fun j => by rw [hM']; exact if_pos rfl
  have eK : M'.2.2.2.1 M.2.2.2.2.1 = (t, n.toInt.toNat) := by rw [hM']; show up1 _ _ _ _ = _; unfold up1; rw [if_pos rfl]
  rw [← hM'] at kk
  have hn0 : ¬ n < 0 := fun q => by rw [o_lt, o_0] at q; omega
  have hcl0 : n.toNatClampNeg = n.toInt.toNat := rfl
  have push : ∀ (q : Nat) (H1 : Heap) (ev : va_E), xcell cl G.2.1 (up1 ad M.2.2.2.2.1 q) M' M.2.2.2.2.1 = ev → va_P G.1 cl (xws cl G.2.1 ad S M ++ [(q, ev)]) H1 → va_D (fun q => G.2.2.1 ≤ q) (xws cl G.2.1 ad S M ++ [(q, ev)]) → xRel cl G S K0 V0 ad0 (up1 ad M.2.2.2.2.1 q) M' H1 := fun q H1 ev he hP1 hD1 =>
    hR.push (M' := M') (q := q) (by rw [hM']) (fun b hb => by rw [hM']; exact if_neg hb) (fun b j hb => by rw [hM']; exact if_neg hb) (fun b j hb => by rw [hM']; exact if_neg hb) (fun b j hb => by rw [hM']; exact if_neg hb) (fun j => by rw [e1]; exact r32_0) (fun j => by rw [e2]; exact r64_0) e3 ⟨by rw [eK]; rcases hat with ⟨h, -⟩ | ⟨h, -⟩ | ⟨h, -⟩ <;> (subst h; simp [xtag]), by rw [eK]; dsimp only; omega⟩ he hP1 hD1
  rcases hat with ⟨h, h2⟩ | ⟨h, h2⟩ | ⟨h, h2⟩
  · subst h; subst h2
    refine va_newa (D := G.1) hx hb (hts _ harr) (ty := .int) rfl hK hR.2.1 hR.2.2.1 hS (fun q hq => Nat.le_trans hA hq) (a0 := (n.toInt.toNat, .inl (fun _ => 0))) (fun cA => rfl) hn0 hcl0 (by show _ * 4 ≤ _; omega) hcells hslots hdg (fun q cA H1 hK1 hP1 hD1 hS1 => kk q H1 ?_ hS1)
    have ec : cA = G.2.1 20 := by
      have h1 := (hK1.2 5 (cA, .int) rfl).2
      have h2 := (hK.2 0 (G.2.1 20, .int) rfl).2
      exact Option.some.inj (h1.symm.trans h2)
    subst ec
    refine push q H1 _ ?_ hP1 hD1
    rw [xcell_int (t := 20) (by rw [eK]) (Or.inl rfl), eK]
    congr 4
    funext j
    rw [e1]; rfl
  · subst h; subst h2
    refine va_newa (D := G.1) hx hb (hts _ harr) (ty := .long) rfl hK hR.2.1 hR.2.2.1 hS (fun q hq => Nat.le_trans hA hq) (a0 := (n.toInt.toNat, .inr (.inl (fun _ => 0)))) (fun cA => rfl) hn0 hcl0 (by show _ * 8 ≤ _; omega) hcells hslots hdg (fun q cA H1 hK1 hP1 hD1 hS1 => kk q H1 ?_ hS1)
    have ec : cA = G.2.1 22 := by
      have h1 := (hK1.2 5 (cA, .long) rfl).2
      have h2 := (hK.2 1 (G.2.1 22, .long) rfl).2
      exact Option.some.inj (h1.symm.trans h2)
    subst ec
    refine push q H1 _ ?_ hP1 hD1
    rw [xcell_long (by rw [eK]), eK]
    congr 5
    funext j
    rw [e2]; rfl
  · subst h; subst h2
    refine va_newa (D := G.1) hx hb (hts _ harr) (ty := .boolean) rfl hK hR.2.1 hR.2.2.1 hS (fun q hq => Nat.le_trans hA hq) (a0 := (n.toInt.toNat, .inl (fun _ => 0))) (fun cA => rfl) hn0 hcl0 (by show _ * 1 ≤ _; omega) hcells hslots hdg (fun q cA H1 hK1 hP1 hD1 hS1 => kk q H1 ?_ hS1)
    have ec : cA = G.2.1 23 := by
      have h1 := (hK1.2 5 (cA, .boolean) rfl).2
      have h2 := (hK.2 2 (G.2.1 23, .boolean) rfl).2
      exact Option.some.inj (h1.symm.trans h2)
    subst ec
    refine push q H1 _ ?_ hP1 hD1
    rw [xcell_int (t := 23) (by rw [eK]) (Or.inr rfl), eK]
    congr 4
    funext j
    rw [e1]; rfl
theorem m_newq (hx : p.tables.exec = Jvm.exec) (hb : c.code = cc) (hts : ∀ w ∈ Tg, w.before args s = true) (hown : s.vm.findClass own = some m.cls) (hover : va_AO "EarRooms$State" s) (hK : va_K G.1 cl (xtys G) s) (hR : xRel cl G S K0 V0 ad0 ad M H) (hS : va_S (fun q => G.2.2.1 ≤ q) s.heap H locs) (hA : G.2.2.1 ≤ s.heap.size)
    {idx : Nat} (w1 : Cond.classLink own idx "EarRooms$State" ∈ Tg) {n : Int32} (hn : 0 ≤ n.toInt ∧ n.toInt ≤ 60000000)
    (hcells : cells + 1 ≤ R.cells) (hslots : slots + n.toInt.toNat ≤ R.slots) (hdg : decode cc pc = .ok (.anewarray idx, 3))
    (kk : ∀ (q : Nat) (H1 : Heap), xRel cl G S K0 V0 ad0 (up1 ad M.2.2.2.2.1 q) (zr M.1 M.2.2.2.2.1, zr M.2.1 M.2.2.2.2.1, zrR M.2.2.1 M.2.2.2.2.1, up1 M.2.2.2.1 M.2.2.2.2.1 (24, n.toInt.toNat), M.2.2.2.2.1 + 1, M.2.2.2.2.2.1 + 1, M.2.2.2.2.2.2 + n.toInt.toNat) H1 → va_S (fun q => G.2.2.1 ≤ q) s.heap H1 locs →
      W p l e R s m args below meth c H1 locs (cells + 1) (slots + n.toInt.toNat) Q (F0 m (pc + 3) ls (.ref q :: rest))) : W p l e R s m args below meth c H locs cells slots Q (F0 m pc ls (.int n :: rest)) := by
  obtain ⟨M', hM'⟩ : ∃ M' : xM, M' = (zr M.1 M.2.2.2.2.1, zr M.2.1 M.2.2.2.2.1, zrR M.2.2.1 M.2.2.2.2.1, up1 M.2.2.2.1 M.2.2.2.2.1 (24, n.toInt.toNat), M.2.2.2.2.1 + 1, M.2.2.2.2.2.1 + 1, M.2.2.2.2.2.2 + n.toInt.toNat) := ⟨_, rfl⟩
  have e1 : ∀ j, M'.1 M.2.2.2.2.1 j = 0 := fun j => by rw [hM']; exact if_pos rfl
  have e2 : ∀ j, M'.2.1 M.2.2.2.2.1 j = 0 := fun j => by rw [hM']; exact if_pos rfl
  have e3 : ∀ j, M'.2.2.1 M.2.2.2.2.1 j = 0 := fun j => by rw [hM']; exact if_pos rfl
  have eK : M'.2.2.2.1 M.2.2.2.2.1 = (24, n.toInt.toNat) := by rw [hM']; show up1 _ _ _ _ = _; unfold up1; rw [if_pos rfl]
  rw [← hM'] at kk
  have hn0 : ¬ n < 0 := fun q => by rw [o_lt, o_0] at q; omega
  refine va_newq (D := G.1) hx hb hown (hts _ w1) hover hK hR.2.1 hR.2.2.1 hS (fun q hq => Nat.le_trans hA hq) hn0 (N' := n.toInt.toNat) rfl (by omega) hcells hslots hdg (fun q cA H1 hK1 hP1 hD1 hS1 => kk q H1 ?_ hS1)
  have ec : cA = G.2.1 24 := by
    obtain ⟨-, -, -, -, -, h1⟩ := (hK1.2 5 (cA, .object "EarRooms$State") rfl).2
    obtain ⟨-, -, -, -, -, h2⟩ := (hK.2 3 (G.2.1 24, .object "EarRooms$State") rfl).2
    exact Option.some.inj (h1.symm.trans h2)
  subst ec
  refine hR.push (M' := M') (q := q) (by rw [hM']) (fun b hb => by rw [hM']; exact if_neg hb) (fun b j hb => by rw [hM']; exact if_neg hb) (fun b j hb => by rw [hM']; exact if_neg hb) (fun b j hb => by rw [hM']; exact if_neg hb) (fun j => by rw [e1]; exact r32_0) (fun j => by rw [e2]; exact r64_0) e3 ⟨by rw [eK]; simp [xtag], by rw [eK]; dsimp only; omega⟩ ?_ hP1 hD1
  rw [xcell_ref (t := 24) (by rw [eK]) (Or.inl rfl), eK]
  congr 7
  funext j
  rw [e3]; rfl
/-- System.arraycopy of whole numbers -/
theorem m_copy (hx : p.tables.exec = Jvm.exec) (hb : c.code = cc) (hml : c.maxLocals = ls.size) (hts : ∀ w ∈ Tg, w.before args s = true) (hown : s.vm.findClass own = some m.cls) (hK : va_K G.1 cl (xtys G) s) (h0 : xlowOK S K0) (hR : xRel cl G S K0 V0 ad0 ad M H) (hS : va_S (fun q => G.2.2.1 ≤ q) s.heap H locs)
    {idx : Nat} (w1 : Cond.methodLink own idx arraycopyName ∈ Tg) (w2 : Cond.native arraycopyName ∈ Tg) (w3 : Cond.static arraycopyName ∈ Tg) (w4 : Cond.initialized "java/lang/System" ∈ Tg) {r t : Nat} (ht1 : (M.2.2.2.1 r).1 = 20) (ht2 : (M.2.2.2.1 t).1 = 20)
    {sp dp n : Int32} (h1 : 0 ≤ sp.toInt) (h2 : 0 ≤ dp.toInt) (h3 : 0 ≤ n.toInt) (h4 : sp.toInt + n.toInt ≤ ((M.2.2.2.1 r).2 : Int)) (h5 : dp.toInt + n.toInt ≤ ((M.2.2.2.1 t).2 : Int))
    (hframes : 1 ≤ R.frames) (hlocals : (rest.map fun v => v.category).sum + (nativeFrameWords "java/lang/System" "arraycopy" 5 + 11) ≤ R.locals) (hdg : decode cc pc = .ok (.invokestatic idx, 3))
    (kk : ∀ (H1 : Heap) (locs1 : List Loc), xRel cl G S K0 V0 ad0 ad (xcpy M.1 r sp.toInt.toNat t dp.toInt.toNat n.toInt.toNat, M.2) H1 → va_S (fun q => G.2.2.1 ≤ q) s.heap H1 locs1 → W p l e R s m args below meth c H1 locs1 cells slots Q (F0 m (pc + 3) ls rest)) : W p l e R s m args below meth c H locs cells slots Q (F0 m pc ls (.int n :: .int dp :: .ref (ad t) :: .int sp :: .ref (ad r) :: rest)) := by
  obtain ⟨g1, g2⟩ := hR.made h0 (a := r) (by omega) (by omega) (by omega)
  obtain ⟨g3, g4⟩ := hR.made h0 (a := t) (by omega) (by omega) (by omega)
  have hat := xws_at (cl := cl) (ca := G.2.1) (ad := ad) (S := S) (M := M) g1 g2
  have hau := xws_at (cl := cl) (ca := G.2.1) (ad := ad) (S := S) (M := M) g3 g4
  rw [xcell_int ht1 (Or.inl rfl)] at hat
  rw [xcell_int ht2 (Or.inl rfl)] at hau
  have c1 : sp.toNatClampNeg = sp.toInt.toNat := rfl
  have c2 : dp.toNatClampNeg = dp.toInt.toNat := rfl
  have c3 : n.toNatClampNeg = n.toInt.toNat := rfl
  refine va_copyi (D := G.1) (ty := .int) hx hb hml hown (hts _ w1) (hts _ w2) (hts _ w3) (hts _ w4) hK hR.2.1 hR.2.2.1 hS (r - S) (t - S) 0 0 hat hau rfl rfl rfl (fun q => by rw [o_lt, o_0] at q; omega) (fun q => by rw [o_lt, o_0] at q; omega) (fun q => by rw [o_lt, o_0] at q; omega) (by rw [c1, c3]; omega) (by rw [c2, c3]; omega) (fun i _ => rfl) hframes hlocals hdg fun H1 locs1 hP1 hD1 hS1 => kk H1 locs1 ?_ hS1
  have ne : ∀ b j, b ≠ t → xcpy M.1 r sp.toInt.toNat t dp.toInt.toNat n.toInt.toNat b j = M.1 b j := fun b j hb => if_neg (fun q => hb q.1)
  refine hR.upd (M' := (xcpy M.1 r sp.toInt.toNat t dp.toInt.toNat n.toInt.toNat, M.2)) g3 g4 rfl (fun b j hb => ne b j hb) (fun _ _ _ => rfl) (fun _ _ _ => rfl) (fun j => by
    show r32 (xcpy _ _ _ _ _ _ _ _)
    unfold xcpy
    split
    · exact hR.2.2.2.1 _ _
    · exact hR.2.2.2.1 _ _) (hR.2.2.2.2.1 t) (hR.2.2.2.2.2.1 t) ?_ hP1 hD1
  rw [xcell_int (M := (xcpy M.1 r sp.toInt.toNat t dp.toInt.toNat n.toInt.toNat, M.2)) ht2 (Or.inl rfl)]
  congr 4
  funext j
  unfold va_cpy xcpy
  dsimp only
  rw [c1, c2, c3]
  by_cases hj : dp.toInt.toNat ≤ j ∧ j < dp.toInt.toNat + n.toInt.toNat
  · rw [if_pos hj, if_pos ⟨rfl, hj⟩]
  · rw [if_neg hj, if_neg (fun q => hj q.2)]
/-- new int[n][k] -/
theorem m_mna (hx : p.tables.exec = Jvm.exec) (hb : c.code = cc) (hts : ∀ w ∈ Tg, w.before args s = true) (hown : s.vm.findClass own = some m.cls) (hover : va_AOA .int s) (hK : va_K G.1 cl (xtys G) s) (hR : xRel cl G S K0 V0 ad0 ad M H) (hS : va_S (fun q => G.2.2.1 ≤ q) s.heap H locs) (hA : G.2.2.1 ≤ s.heap.size)
    {idx : Nat} (w1 : Cond.classLink own idx "[[I" ∈ Tg) (w2 : Cond.arrayClass .int ∈ Tg) {n k : Int32} (hn : 0 ≤ n.toInt ∧ n.toInt ≤ 60000000) (hk : 0 ≤ k.toInt ∧ k.toInt ≤ 60000000) {N N2 : Nat} (eN : n.toInt.toNat = N) (eN2 : k.toInt.toNat = N2)
    (hcells : cells + (1 + N) ≤ R.cells) (hslots : slots + (N + N * N2) ≤ R.slots) (hdg : decode cc pc = .ok (.multianewarray idx 2, 4)) {M' : xM}
    (hM' : M' = (zrs M.1 M.2.2.2.2.1 (1 + N), zrs M.2.1 M.2.2.2.2.1 (1 + N), (fun b j => if b = M.2.2.2.2.1 ∧ j < N then M.2.2.2.2.1 + 1 + j else zrsR M.2.2.1 M.2.2.2.2.1 (1 + N) b j),
           (fun b => if b = M.2.2.2.2.1 then (25, N) else if M.2.2.2.2.1 < b ∧ b ≤ M.2.2.2.2.1 + N then (20, N2) else M.2.2.2.1 b),
           M.2.2.2.2.1 + 1 + N, M.2.2.2.2.2.1 + 1 + N, M.2.2.2.2.2.2 + N + N * N2))
    (kk : ∀ (q : Nat) (ad' : Nat → Nat) (H1 : Heap), (∀ a, a < M.2.2.2.2.1 → ad' a = ad a) → ad' M.2.2.2.2.1 = q → xRel cl G S K0 V0 ad0 ad' M' H1 → va_S (fun q => G.2.2.1 ≤ q) s.heap H1 locs →
      W p l e R s m args below meth c H1 locs (cells + 1 + N) (slots + N + N * N2) Q (F0 m (pc + 4) ls (.ref q :: rest))) : W p l e R s m args below meth c H locs cells slots Q (F0 m pc ls (.int k :: .int n :: rest)) := by
  have hn0 : ¬ n < 0 := fun q => by rw [o_lt, o_0] at q; omega
  have hk0 : ¬ k < 0 := fun q => by rw [o_lt, o_0] at q; omega
  have f1 : s.vm.findClass (FieldType.array .int).toString = some (G.2.1 20) := (hK.2 0 (G.2.1 20, .int) rfl).2
  have hP0 : va_P G.1 cl (xws cl G.2.1 ad S M ++ va_pl [] (fun _ => .inr (0, []))) H := by
    show va_P G.1 cl (xws cl G.2.1 ad S M ++ []) H
    rw [List.append_nil]; exact hR.2.1
  have hD0 : va_D (fun q => G.2.2.1 ≤ q) (xws cl G.2.1 ad S M ++ va_pl [] (fun _ => .inr (0, []))) := by
    show va_D _ (xws cl G.2.1 ad S M ++ [])
    rw [List.append_nil]; exact hR.2.2.1
  refine va_mna (D := G.1) (X := xws cl G.2.1 ad S M) (L := []) (f := fun _ => .inr (0, [])) hx hb (ty := .int) (cy := G.2.1 20) hown (hts _ w1) hover (hts _ w2) f1 hK hP0 hD0 hS (fun q hq => Nat.le_trans hA hq) hn0 hk0 (N' := N) (K' := N2) eN eN2
    (z := (N2, .inl (fun _ => 0))) (by omega) (by show _ * 4 ≤ _; omega) (by omega) rfl rfl hcells hslots (fun c => by show ({ cls := c, slots := Array.replicate N2 (.int 0), vm := .none } : Cell) = _; rw [arrV_new]; rfl) hdg (fun q r cA H1 hinj hnot hK1 hP1 hD1 hS1 => ?_)
  have ec : cA = G.2.1 25 := by
    have h1 := (hK1.2 5 (cA, .array .int) rfl).2
    have h2 := (hK.2 4 (G.2.1 25, .array .int) rfl).2
    exact Option.some.inj (h1.symm.trans h2)
  subst ec
  obtain ⟨q1, q2, q3, q4, q5, q6, q7, q8, q9⟩ := hR
  obtain ⟨ad', had⟩ : ∃ ad' : Nat → Nat, ad' = fun b => if b = M.2.2.2.2.1 then q else if M.2.2.2.2.1 < b ∧ b ≤ M.2.2.2.2.1 + N then r (b - M.2.2.2.2.1 - 1) else ad b := ⟨_, rfl⟩
  have a1 : ∀ a, a < M.2.2.2.2.1 → ad' a = ad a := fun a h => by rw [had]; dsimp only; rw [if_neg (by omega), if_neg (by omega)]
  have a2 : ad' M.2.2.2.2.1 = q := by rw [had]; exact if_pos rfl
  have a3 : ∀ j, j < N → ad' (M.2.2.2.2.1 + 1 + j) = r j := fun j h => by rw [had]; dsimp only; rw [if_neg (by omega), if_pos (by omega), show M.2.2.2.2.1 + 1 + j - M.2.2.2.2.1 - 1 = j by omega]
  have z1 : ∀ b j, M.2.2.2.2.1 ≤ b → b < M.2.2.2.2.1 + (1 + N) → M'.1 b j = 0 := fun b j h h' => by rw [hM']; exact if_pos ⟨h, h'⟩
  have z2 : ∀ b j, M.2.2.2.2.1 ≤ b → b < M.2.2.2.2.1 + (1 + N) → M'.2.1 b j = 0 := fun b j h h' => by rw [hM']; exact if_pos ⟨h, h'⟩
  have o1 : ∀ b j, ¬ (M.2.2.2.2.1 ≤ b ∧ b < M.2.2.2.2.1 + (1 + N)) → M'.1 b j = M.1 b j := fun b j h => by rw [hM']; exact if_neg h
  have o2 : ∀ b j, ¬ (M.2.2.2.2.1 ≤ b ∧ b < M.2.2.2.2.1 + (1 + N)) → M'.2.1 b j = M.2.1 b j := fun b j h => by rw [hM']; exact if_neg h
  have o3 : ∀ b j, ¬ (M.2.2.2.2.1 ≤ b ∧ b < M.2.2.2.2.1 + (1 + N)) → M'.2.2.1 b j = M.2.2.1 b j := fun b j h => by
    rw [hM']; dsimp only; rw [if_neg (fun q => h (by omega))]; exact if_neg h
  have oK : ∀ b, ¬ (M.2.2.2.2.1 ≤ b ∧ b < M.2.2.2.2.1 + (1 + N)) → M'.2.2.2.1 b = M.2.2.2.1 b := fun b h => by
    rw [hM']; dsimp only; rw [if_neg (by omega), if_neg (by omega)]
  have K1 : M'.2.2.2.1 M.2.2.2.2.1 = (25, N) := by rw [hM']; exact if_pos rfl
  have K2 : ∀ j, j < N → M'.2.2.2.1 (M.2.2.2.2.1 + 1 + j) = (20, N2) := fun j h => by rw [hM']; dsimp only; rw [if_neg (by omega), if_pos (by omega)]
  have eN' : M'.2.2.2.2.1 = M.2.2.2.2.1 + 1 + N := by rw [hM']
  have R1 : ∀ j, M'.2.2.1 M.2.2.2.2.1 j = if j < N then M.2.2.2.2.1 + 1 + j else 0 := fun j => by
    rw [hM']; dsimp only
    by_cases h : j < N
    · rw [if_pos ⟨rfl, h⟩, if_pos h]
    · rw [if_neg (fun q => h q.2), if_neg h]; exact if_pos (by omega)
  have R2 : ∀ b j, M.2.2.2.2.1 < b → b < M.2.2.2.2.1 + (1 + N) → M'.2.2.1 b j = 0 := fun b j h h' => by
    rw [hM']; dsimp only; rw [if_neg (by omega)]; exact if_pos (by omega)
  have ew : (xws cl G.2.1 ad S M ++ [(q, .inl (G.2.1 25, N, .inr (.inr (.inr (.inr (fun i => if i < N then some (r i) else none))))))]) ++ va_pl ([] ++ (List.range N).map r) (vr_up (fun _ => .inr (0, [])) ((List.range N).map r) (.inl (G.2.1 20, (N2, .inl (fun _ => 0))))) = xws cl G.2.1 ad' S M' := by
    apply List.ext_getElem?
    intro i
    have hl1 : (xws cl G.2.1 ad S M).length = M.2.2.2.2.1 - S := xws_len
    have hl2 : (xws cl G.2.1 ad' S M').length = M.2.2.2.2.1 + 1 + N - S := by rw [xws_len, eN']
    by_cases hi : i < M.2.2.2.2.1 - S
    · rw [List.getElem?_append_left (by rw [List.length_append, hl1]; omega), List.getElem?_append_left (by rw [hl1]; exact hi)]
      have e1 := xws_at (cl := cl) (ca := G.2.1) (ad := ad) (S := S) (M := M) (a := S + i) (by omega) (by omega)
      have e2 := xws_at (cl := cl) (ca := G.2.1) (ad := ad') (S := S) (M := M') (a := S + i) (by omega) (by omega)
      rw [show S + i - S = i by omega] at e1 e2
      have hne : ¬ (M.2.2.2.2.1 ≤ S + i ∧ S + i < M.2.2.2.2.1 + (1 + N)) := by omega
      rw [e1, e2, a1 (S + i) (by omega), xcell_congr (oK _ hne) (fun j => o1 _ j hne) (fun j => o2 _ j hne) (fun j => o3 _ j hne) (fun j => a1 _ (q6 _ j))]
    · by_cases hi2 : i = M.2.2.2.2.1 - S
      · subst hi2
        rw [List.getElem?_append_left (by rw [List.length_append, hl1, List.length_singleton]; omega), List.getElem?_append_right (by rw [hl1]; omega), hl1, Nat.sub_self]
        have e2 := xws_at (cl := cl) (ca := G.2.1) (ad := ad') (S := S) (M := M') (a := M.2.2.2.2.1) q1 (by omega)
        rw [e2, a2, xcell_ref (t := 25) (by rw [K1]) (Or.inr rfl), K1]
        show some _ = some _
        congr 9
        funext j
        rw [R1]
        by_cases h : j < N
        · rw [if_pos h, if_pos h, xrf, if_neg (by omega), a3 j h]
        · rw [if_neg h, if_neg h]; rfl
      · rw [List.getElem?_append_right (by rw [List.length_append, hl1, List.length_singleton]; omega), List.length_append, hl1, List.length_singleton]
        by_cases hi3 : i < M.2.2.2.2.1 + 1 + N - S
        · have hj : i - (M.2.2.2.2.1 - S + 1) < N := by omega
          have e2 := xws_at (cl := cl) (ca := G.2.1) (ad := ad') (S := S) (M := M') (a := S + i) (by omega) (by omega)
          rw [show S + i - S = i by omega, show S + i = M.2.2.2.2.1 + 1 + (i - (M.2.2.2.2.1 - S + 1)) by omega] at e2
          rw [e2, a3 _ hj, xcell_int (t := 20) (by rw [K2 _ hj]) (Or.inl rfl), K2 _ hj]
          unfold va_pl
          rw [List.nil_append, List.getElem?_map, List.getElem?_map, List.getElem?_range hj]
          dsimp only
          show some (_, vr_up _ _ _ _) = _
          rw [vr_up_in (List.mem_map.mpr ⟨_, List.mem_range.mpr hj, rfl⟩)]
          congr 6
          funext j
          rw [z1 _ j (by omega) (by omega)]; rfl
        · rw [List.getElem?_eq_none (by unfold va_pl; rw [List.nil_append, List.length_map, List.length_map, List.length_range]; omega), List.getElem?_eq_none (by rw [hl2]; omega)]
  rw [ew] at hP1 hD1
  refine kk q ad' H1 a1 a2 ⟨by omega, hP1, hD1, fun b j => ?_, fun b j => ?_, fun b j => ?_, fun b hb hb2 => ?_, fun b hb => ?_, fun b hb => ?_⟩ hS1
  · by_cases h : M.2.2.2.2.1 ≤ b ∧ b < M.2.2.2.2.1 + (1 + N)
    · rw [z1 b j h.1 h.2]; exact r32_0
    · rw [o1 b j h]; exact q4 b j
  · by_cases h : M.2.2.2.2.1 ≤ b ∧ b < M.2.2.2.2.1 + (1 + N)
    · rw [z2 b j h.1 h.2]; exact r64_0
    · rw [o2 b j h]; exact q5 b j
  · by_cases h : M.2.2.2.2.1 ≤ b ∧ b < M.2.2.2.2.1 + (1 + N)
    · by_cases h2 : b = M.2.2.2.2.1
      · rw [h2, R1, eN']; split <;> omega
      · rw [R2 b j (by omega) h.2]; omega
    · rw [o3 b j h]
      have := q6 b j
      omega
  · by_cases h : M.2.2.2.2.1 ≤ b ∧ b < M.2.2.2.2.1 + (1 + N)
    · by_cases h2 : b = M.2.2.2.2.1
      · rw [h2, K1]; exact ⟨by simp [xtag], by dsimp only; omega⟩
      · rw [show b = M.2.2.2.2.1 + 1 + (b - M.2.2.2.2.1 - 1) by omega, K2 _ (by omega)]; exact ⟨by simp [xtag], by dsimp only; omega⟩
    · rw [oK b h]; exact q7 b hb (by omega)
  · rw [oK b (by omega)]; exact q8 b (by omega)
  · have hne : ¬ (M.2.2.2.2.1 ≤ b ∧ b < M.2.2.2.2.1 + (1 + N)) := by omega
    obtain ⟨g1, g2, g3⟩ := q9 b hb
    exact ⟨by rw [oK b hne]; exact g1, fun i => by rw [o1 b i hne]; exact g2 i, by rw [a1 b (by omega)]; exact g3⟩
end NEWS
