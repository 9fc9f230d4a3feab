/-! ===== THE HEAP: one instruction of the JVM against one of the plain machine ===== -/
/-- the kinds of arrays that are made -/
def xtys (G : xG) : List (ClassId × FieldType) := [(G.2.1 20, .int), (G.2.1 22, .long), (G.2.1 23, .boolean), (G.2.1 24, .object "EarRooms$State"), (G.2.1 25, .array .int)]
theorem fits_ref (ty : FieldType) (h : xtyk ty = 2) (q : Nat) : narrow ty (.ref q) = .ref q ∧ fits ty (.ref q) = true := by
  cases ty <;> first | exact ⟨rfl, rfl⟩ | (simp [xtyk] at h)
theorem fits_bool {w : Int32} (h : w.toInt = 0 ∨ w.toInt = 1) : narrow .boolean (.int w) = .int w ∧ fits .boolean (.int w) = true := by
  rcases h with h | h
  · have : w = 0 := Int32.toInt.inj (by rw [h]; rfl)
    subst this
    exact ⟨rfl, rfl⟩
  · have : w = 1 := Int32.toInt.inj (by rw [h]; rfl)
    subst this
    exact ⟨rfl, rfl⟩
theorem nar_bool {w : Int32} (h : w.toInt = 0 ∨ w.toInt = 1) : vp_nar .boolean w = w := by
  unfold vp_nar
  rw [(fits_bool h).1]
section ROWS
variable {p : Program} {l : Launch} {e : Env} {R : Room} {s : State} {m : MethodId} {args : Array Value} {below : List Frame} {meth : Method} {c : Code} {H : Heap} {locs : List Loc} {cells slots : Nat} {Q : State → Prop}
variable {cc : ByteArray} {pc : Nat} {ls : Array Slot} {rest : List Value} {own : String}
variable {cl : List vw_C} {Tg : List Cond} {G : xG} {S : Nat} {K0 : Nat → Nat × Nat} {V0 : xF} {ad0 ad : Nat → Nat} {M : xM}
theorem m_getf (hx : p.tables.exec = Jvm.exec) (hb : c.code = cc) (hts : ∀ w ∈ Tg, w.before args s = true) (hcl : xClOK cl Tg) (hown : s.vm.findClass own = some m.cls) (hK : va_K G.1 cl (xtys G) s) (h0 : xlowOK S K0) (hR : xRel cl G S K0 V0 ad0 ad M H)
    {r cn b idx N : Nat} {C : String} {T : u_T} (hc : cl[cn]? = some (C, T, N)) (hbN : b < N) (hd : (T b).1 = C) (hl : Cond.fieldLink own idx C (T b).2.1 (T b).2.2.1 ∈ Tg) (ht : (M.2.2.2.1 r).1 = cn + 1) (hdg : decode cc pc = .ok (.getfield idx, 3))
    (kk : W p l e R s m args below meth c H locs cells slots Q (F0 m (pc + 3) ls (xfv ad M r b (xfk (T b).2.2.1) :: rest))) : W p l e R s m args below meth c H locs cells slots Q (F0 m pc ls (.ref (ad r) :: rest)) := by
  have hcn : cn < cl.length := (List.getElem?_eq_some_iff.mp hc).1
  have h20 := hcl.1
  obtain ⟨g1, g2⟩ := hR.made h0 (a := r) (by omega) (by omega) (by omega)
  have hat := xws_at (cl := cl) (ca := G.2.1) (ad := ad) (S := S) (M := M) g1 g2
  rw [xcell_obj hc (by omega) ht] at hat
  refine va_get (D := G.1) (ci := cn) (C := C) (T := T) (N := N) (index := idx) hx hb hts (hcl.2 cn _ hc).1 hown hK hR.2.1 (r - S) hat hc b hbN (hts _ hl) (fun x h => by rw [hd] at h; exact h) (v := xfv ad M r b (xfk (T b).2.2.1)) ?_ hdg kk
  rw [List.getElem?_map, List.getElem?_range hbN]
  rfl
theorem m_putf (hx : p.tables.exec = Jvm.exec) (hb : c.code = cc) (hts : ∀ w ∈ Tg, w.before args s = true) (hcl : xClOK cl Tg) (hown : s.vm.findClass own = some m.cls) (hK : va_K G.1 cl (xtys G) s) (h0 : xlowOK S K0) (hR : xRel cl G S K0 V0 ad0 ad M H) (hS : va_S (fun q => G.2.2.1 ≤ q) s.heap H locs)
    {r cn b idx N : Nat} {C : String} {T : u_T} (hc : cl[cn]? = some (C, T, N)) (hbN : b < N) (hd : (T b).1 = C) (hl : Cond.fieldLink own idx C (T b).2.1 (T b).2.2.1 ∈ Tg) (hfin : (T b).2.2.2 = true → meth.name = "<init>" ∧ own = C) (ht : (M.2.2.2.1 r).1 = cn + 1) (hdg : decode cc pc = .ok (.putfield idx, 3))
    {v : Value} (hv : ∀ ty, xtyk ty = xfk (T b).2.2.1 → narrow ty v = v ∧ fits ty v = true) {M' : xM} (hz : M'.2.2.2 = M.2.2.2) (h1 : ∀ b j, b ≠ r → M'.1 b j = M.1 b j) (h2 : ∀ b j, b ≠ r → M'.2.1 b j = M.2.1 b j) (h3 : ∀ b j, b ≠ r → M'.2.2.1 b j = M.2.2.1 b j)
    (r1 : ∀ j, r32 (M'.1 r j)) (r2 : ∀ j, r64 (M'.2.1 r j)) (r3 : ∀ j, M'.2.2.1 r j < M.2.2.2.2.1) (hset : ∀ j, xfv ad M' r j (xfk (T j).2.2.1) = if j = b then v else xfv ad M r j (xfk (T j).2.2.1))
    (kk : ∀ (H1 : Heap) (locs1 : List Loc), xRel cl G S K0 V0 ad0 ad M' H1 → va_S (fun q => G.2.2.1 ≤ q) s.heap H1 locs1 → W p l e R s m args below meth c H1 locs1 cells slots Q (F0 m (pc + 3) ls rest)) : W p l e R s m args below meth c H locs cells slots Q (F0 m pc ls (v :: .ref (ad r) :: rest)) := by
  have hcn : cn < cl.length := (List.getElem?_eq_some_iff.mp hc).1
  have h20 := hcl.1
  obtain ⟨g1, g2⟩ := hR.made h0 (a := r) (by omega) (by omega) (by omega)
  have hat := xws_at (cl := cl) (ca := G.2.1) (ad := ad) (S := S) (M := M) g1 g2
  rw [xcell_obj hc (by omega) ht] at hat
  obtain ⟨c1, ⟨ty, c2⟩, c3⟩ := hcl.2 cn _ hc
  have ecell : xcell cl G.2.1 ad M' r = .inr (cn, ((List.range N).map (fun j => xfv ad M r j (xfk (T j).2.2.1))).set b v) := by
    rw [xcell_obj hc (by omega) (by rw [hz]; exact ht)]
    congr 2
    apply List.ext_getElem?
    intro i
    rw [List.getElem?_set, List.getElem?_map, List.getElem?_map]
    by_cases hi : b = i
    · subst hi
      rw [if_pos rfl, List.getElem?_range hbN, if_pos (by rw [List.length_map, List.length_range]; exact hbN)]
      show some (xfv ad M' r b _) = _
      rw [hset, if_pos rfl]
    · rw [if_neg hi]
      by_cases hN : i < N
      · rw [List.getElem?_range hN]
        show some (xfv ad M' r i _) = some _
        rw [hset, if_neg (fun q => hi q.symm)]
      · rw [List.getElem?_eq_none (by rw [List.length_range]; omega)]
        rfl
  obtain ⟨n1, n2⟩ := hv (ty b) (c2 b hbN).2
  have kk' : ∀ (H1 : Heap) (locs1 : List Loc), va_P G.1 cl ((xws cl G.2.1 ad S M).set (r - S) (ad r, .inr (cn, ((List.range N).map (fun j => xfv ad M r j (xfk (T j).2.2.1))).set b v))) H1 → va_D (fun q => G.2.2.1 ≤ q) ((xws cl G.2.1 ad S M).set (r - S) (ad r, .inr (cn, ((List.range N).map (fun j => xfv ad M r j (xfk (T j).2.2.1))).set b v))) → va_S (fun q => G.2.2.1 ≤ q) s.heap H1 locs1 → W p l e R s m args below meth c H1 locs1 cells slots Q (F0 m (pc + 3) ls rest) :=
    fun H1 locs1 hP1 hD1 hS1 => kk H1 locs1 (hR.upd g1 g2 hz h1 h2 h3 r1 r2 r3 ecell hP1 hD1) hS1
  cases hf : (T b).2.2.2 with
  | false => exact va_put (D := G.1) (ci := cn) (C := C) (T := T) (N := N) (index := idx) hx hb hts c1 ty (fun k hk => (c2 k hk).1) c3 hown hK hR.2.1 hR.2.2.1 hS (r - S) hat hc b hbN (hts _ hl) (fun x h => by rw [hd] at h; exact h) hf (c2 b hbN).1 n1 n2 (by rw [List.length_map, List.length_range]; exact hbN) hdg kk'
  | true => exact va_putF (D := G.1) (ci := cn) (C := C) (T := T) (N := N) (index := idx) hx hb hts c1 ty (fun k hk => (c2 k hk).1) c3 hown hK hR.2.1 hR.2.2.1 hS (r - S) hat hc b hbN (hts _ hl) (fun x h => by rw [hd] at h; exact h) hf (hfin hf).1 (by rw [hd]; exact (hfin hf).2.symm) (c2 b hbN).1 n1 n2 (by rw [List.length_map, List.length_range]; exact hbN) hdg kk'
theorem m_iald (hx : p.tables.exec = Jvm.exec) (hb : c.code = cc) (hK : va_K G.1 cl (xtys G) s) (h0 : xlowOK S K0) (hR : xRel cl G S K0 V0 ad0 ad M H) {r : Nat} (ht : (M.2.2.2.1 r).1 = 20) {i : Int32} (hin : vp_in i (M.2.2.2.1 r).2) (hdg : decode cc pc = .ok (.iaload, 1))
    (kk : W p l e R s m args below meth c H locs cells slots Q (F0 m (pc + 1) ls (.int (Int32.ofInt (M.1 r i.toNatClampNeg)) :: rest))) : W p l e R s m args below meth c H locs cells slots Q (F0 m pc ls (.int i :: .ref (ad r) :: rest)) := by
  obtain ⟨g1, g2⟩ := hR.made h0 (a := r) (by omega) (by omega) (by omega)
  have hat := xws_at (cl := cl) (ca := G.2.1) (ad := ad) (S := S) (M := M) g1 g2
  rw [xcell_int ht (Or.inl rfl)] at hat
  exact va_iald (D := G.1) hx hb hK hR.2.1 (r - S) 0 hat rfl hin hdg kk
theorem m_zald (hx : p.tables.exec = Jvm.exec) (hb : c.code = cc) (hK : va_K G.1 cl (xtys G) s) (h0 : xlowOK S K0) (hR : xRel cl G S K0 V0 ad0 ad M H) {r : Nat} (ht : (M.2.2.2.1 r).1 = 23) {i : Int32} (hin : vp_in i (M.2.2.2.1 r).2) (hdg : decode cc pc = .ok (.baload, 1))
    (kk : W p l e R s m args below meth c H locs cells slots Q (F0 m (pc + 1) ls (.int (Int32.ofInt (M.1 r i.toNatClampNeg)) :: rest))) : W p l e R s m args below meth c H locs cells slots Q (F0 m pc ls (.int i :: .ref (ad r) :: rest)) := by
  obtain ⟨g1, g2⟩ := hR.made h0 (a := r) (by omega) (by omega) (by omega)
  have hat := xws_at (cl := cl) (ca := G.2.1) (ad := ad) (S := S) (M := M) g1 g2
  rw [xcell_int ht (Or.inr rfl)] at hat
  exact va_zald (D := G.1) hx hb hK hR.2.1 (r - S) 2 hat rfl hin hdg kk
theorem m_lald (hx : p.tables.exec = Jvm.exec) (hb : c.code = cc) (hK : va_K G.1 cl (xtys G) s) (h0 : xlowOK S K0) (hR : xRel cl G S K0 V0 ad0 ad M H) {r : Nat} (ht : (M.2.2.2.1 r).1 = 22) {i : Int32} (hin : vp_in i (M.2.2.2.1 r).2) (hdg : decode cc pc = .ok (.laload, 1))
    (kk : W p l e R s m args below meth c H locs cells slots Q (F0 m (pc + 1) ls (.long (Int64.ofInt (M.2.1 r i.toNatClampNeg)) :: rest))) : W p l e R s m args below meth c H locs cells slots Q (F0 m pc ls (.int i :: .ref (ad r) :: rest)) := by
  obtain ⟨g1, g2⟩ := hR.made h0 (a := r) (by omega) (by omega) (by omega)
  have hat := xws_at (cl := cl) (ca := G.2.1) (ad := ad) (S := S) (M := M) g1 g2
  rw [xcell_long ht] at hat
  exact va_lald (D := G.1) hx hb hK hR.2.1 (r - S) 1 hat rfl hin hdg kk
theorem m_aald (hx : p.tables.exec = Jvm.exec) (hb : c.code = cc) (hK : va_K G.1 cl (xtys G) s) (h0 : xlowOK S K0) (hR : xRel cl G S K0 V0 ad0 ad M H) {r t : Nat} (ht : (M.2.2.2.1 r).1 = t) (h45 : t = 24 ∨ t = 25) {i : Int32} (hin : vp_in i (M.2.2.2.1 r).2) (hdg : decode cc pc = .ok (.aaload, 1))
    (kk : W p l e R s m args below meth c H locs cells slots Q (F0 m (pc + 1) ls (xref ad (M.2.2.1 r i.toNatClampNeg) :: rest))) : W p l e R s m args below meth c H locs cells slots Q (F0 m pc ls (.int i :: .ref (ad r) :: rest)) := by
  obtain ⟨g1, g2⟩ := hR.made h0 (a := r) (by omega) (by omega) (by omega)
  have hat := xws_at (cl := cl) (ca := G.2.1) (ad := ad) (S := S) (M := M) g1 g2
  rw [xcell_ref ht h45] at hat
  have hlt : i.toNatClampNeg < (M.2.2.2.1 r).2 := Nat.not_le.mp fun q => hin (Or.inr q)
  rcases h45 with h | h
  · subst h
    refine va_aldq (D := G.1) (C := "EarRooms$State") hx hb hK hR.2.1 (r - S) 3 hat rfl hin hdg ?_
    rw [xrf_rf]
    exact kk
  · subst h
    refine W.aald (v := va_rf (xrf ad (M.2.2.1 r i.toNatClampNeg))) (ty := .array .int) hx hb (hR.2.1 (r - S) _ hat) ((hK.2 4 (G.2.1 25, .array .int) rfl).1 (M.2.2.2.1 r).2 (fun j => va_rf (xrf ad (M.2.2.1 r j)))) rfl (fun q => by cases q) (by show ¬ (i < 0 ∨ (arrV _ _ _).slots.size ≤ _); rw [arrV_size]; exact hin) (by show (arrV _ _ _).slots[_]? = _; rw [arrV_read _ _ hlt]) rfl rfl hdg ?_
    rw [xrf_rf]
    exact kk
theorem m_alen (hx : p.tables.exec = Jvm.exec) (hb : c.code = cc) (hK : va_K G.1 cl (xtys G) s) (h0 : xlowOK S K0) (hR : xRel cl G S K0 V0 ad0 ad M H) {r : Nat} (h1 : 20 ≤ (M.2.2.2.1 r).1) (h2 : (M.2.2.2.1 r).1 ≠ 21) (h3 : (M.2.2.2.1 r).1 ≤ 25) (hdg : decode cc pc = .ok (.arraylength, 1))
    (kk : W p l e R s m args below meth c H locs cells slots Q (F0 m (pc + 1) ls (.int (Int32.ofNat (M.2.2.2.1 r).2) :: rest))) : W p l e R s m args below meth c H locs cells slots Q (F0 m pc ls (.ref (ad r) :: rest)) := by
  obtain ⟨g1, g2⟩ := hR.made h0 (a := r) (by omega) (by omega) (by omega)
  have hat := xws_at (cl := cl) (ca := G.2.1) (ad := ad) (S := S) (M := M) g1 g2
  have ht : (M.2.2.2.1 r).1 = 20 ∨ (M.2.2.2.1 r).1 = 22 ∨ (M.2.2.2.1 r).1 = 23 ∨ (M.2.2.2.1 r).1 = 24 ∨ (M.2.2.2.1 r).1 = 25 := by omega
  rcases ht with h | h | h | h | h
  · rw [xcell_int h (Or.inl rfl)] at hat
    exact va_alen (D := G.1) hx hb hK hR.2.1 (r - S) 0 hat (ty := .int) rfl rfl hdg kk
  · rw [xcell_long h] at hat
    exact va_alen (D := G.1) hx hb hK hR.2.1 (r - S) 1 hat (ty := .long) rfl rfl hdg kk
  · rw [xcell_int h (Or.inr rfl)] at hat
    exact va_alen (D := G.1) hx hb hK hR.2.1 (r - S) 2 hat (ty := .boolean) rfl rfl hdg kk
  · rw [xcell_ref h (Or.inl rfl)] at hat
    exact va_alen (D := G.1) hx hb hK hR.2.1 (r - S) 3 hat (ty := .object "EarRooms$State") rfl rfl hdg kk
  · rw [xcell_ref h (Or.inr rfl)] at hat
    exact va_alen (D := G.1) hx hb hK hR.2.1 (r - S) 4 hat (ty := .array .int) rfl rfl hdg kk
theorem up2_ne {α : Type} {f : Nat → Nat → α} {a i b j : Nat} {z : α} (h : ¬ (b = a ∧ j = i)) : up2 f a i z b j = f b j := if_neg h
theorem up2_eq {α : Type} {f : Nat → Nat → α} {a i : Nat} {z : α} : up2 f a i z a i = z := if_pos ⟨rfl, rfl⟩
theorem r32_up2 {f : xF} {a i : Nat} {z : Int} (h : ∀ a i, r32 (f a i)) (hz : r32 z) : ∀ b j, r32 (up2 f a i z b j) := fun b j => by
  unfold up2
  split
  · exact hz
  · exact h b j
theorem r64_up2 {f : xF} {a i : Nat} {z : Int} (h : ∀ a i, r64 (f a i)) (hz : r64 z) : ∀ b j, r64 (up2 f a i z b j) := fun b j => by
  unfold up2
  split
  · exact hz
  · exact h b j
theorem m_iast (hx : p.tables.exec = Jvm.exec) (hb : c.code = cc) (hK : va_K G.1 cl (xtys G) s) (h0 : xlowOK S K0) (hR : xRel cl G S K0 V0 ad0 ad M H) (hS : va_S (fun q => G.2.2.1 ≤ q) s.heap H locs) {r : Nat} (ht : (M.2.2.2.1 r).1 = 20) {i x : Int32} (hin : vp_in i (M.2.2.2.1 r).2) (hdg : decode cc pc = .ok (.iastore, 1))
    (kk : ∀ (H1 : Heap) (locs1 : List Loc), xRel cl G S K0 V0 ad0 ad (up2 M.1 r i.toNatClampNeg x.toInt, M.2) H1 → va_S (fun q => G.2.2.1 ≤ q) s.heap H1 locs1 → W p l e R s m args below meth c H1 locs1 cells slots Q (F0 m (pc + 1) ls rest)) : W p l e R s m args below meth c H locs cells slots Q (F0 m pc ls (.int x :: .int i :: .ref (ad r) :: rest)) := by
  obtain ⟨g1, g2⟩ := hR.made h0 (a := r) (by omega) (by omega) (by omega)
  have hat := xws_at (cl := cl) (ca := G.2.1) (ad := ad) (S := S) (M := M) g1 g2
  rw [xcell_int ht (Or.inl rfl)] at hat
  refine va_iast (D := G.1) hx hb hK hR.2.1 hR.2.2.1 hS (r - S) 0 hat rfl hin hdg fun H1 locs1 hP1 hD1 hS1 => kk H1 locs1 ?_ hS1
  refine hR.upd (M' := (up2 M.1 r i.toNatClampNeg x.toInt, M.2)) g1 g2 rfl (fun b j hb => up2_ne (fun q => hb q.1)) (fun _ _ _ => rfl) (fun _ _ _ => rfl) (r32_up2 hR.2.2.2.1 (r32_of x) r) (hR.2.2.2.2.1 r) (hR.2.2.2.2.2.1 r) ?_ hP1 hD1
  rw [xcell_int (M := (up2 M.1 r i.toNatClampNeg x.toInt, M.2)) ht (Or.inl rfl)]
  congr 4
  funext j
  unfold upd
  dsimp only
  by_cases hj : j = i.toNatClampNeg
  · rw [if_pos hj, hj, up2_eq, Int32.ofInt_toInt]
  · rw [if_neg hj, up2_ne (fun q => hj q.2)]
theorem m_zast (hx : p.tables.exec = Jvm.exec) (hb : c.code = cc) (hK : va_K G.1 cl (xtys G) s) (h0 : xlowOK S K0) (hR : xRel cl G S K0 V0 ad0 ad M H) (hS : va_S (fun q => G.2.2.1 ≤ q) s.heap H locs) {r : Nat} (ht : (M.2.2.2.1 r).1 = 23) {i x : Int32} (hin : vp_in i (M.2.2.2.1 r).2) (hx01 : x.toInt = 0 ∨ x.toInt = 1) (hdg : decode cc pc = .ok (.bastore, 1))
    (kk : ∀ (H1 : Heap) (locs1 : List Loc), xRel cl G S K0 V0 ad0 ad (up2 M.1 r i.toNatClampNeg x.toInt, M.2) H1 → va_S (fun q => G.2.2.1 ≤ q) s.heap H1 locs1 → W p l e R s m args below meth c H1 locs1 cells slots Q (F0 m (pc + 1) ls rest)) : W p l e R s m args below meth c H locs cells slots Q (F0 m pc ls (.int x :: .int i :: .ref (ad r) :: rest)) := by
  obtain ⟨g1, g2⟩ := hR.made h0 (a := r) (by omega) (by omega) (by omega)
  have hat := xws_at (cl := cl) (ca := G.2.1) (ad := ad) (S := S) (M := M) g1 g2
  rw [xcell_int ht (Or.inr rfl)] at hat
  refine va_zast (D := G.1) hx hb hK hR.2.1 hR.2.2.1 hS (r - S) 2 hat rfl hin hdg fun H1 locs1 hP1 hD1 hS1 => kk H1 locs1 ?_ hS1
  rw [nar_bool hx01] at hP1 hD1
  refine hR.upd (M' := (up2 M.1 r i.toNatClampNeg x.toInt, M.2)) g1 g2 rfl (fun b j hb => up2_ne (fun q => hb q.1)) (fun _ _ _ => rfl) (fun _ _ _ => rfl) (r32_up2 hR.2.2.2.1 (r32_of x) r) (hR.2.2.2.2.1 r) (hR.2.2.2.2.2.1 r) ?_ hP1 hD1
  rw [xcell_int (M := (up2 M.1 r i.toNatClampNeg x.toInt, M.2)) ht (Or.inr rfl)]
  congr 4
  funext j
  unfold upd
  dsimp only
  by_cases hj : j = i.toNatClampNeg
  · rw [if_pos hj, hj, up2_eq, Int32.ofInt_toInt]
  · rw [if_neg hj, up2_ne (fun q => hj q.2)]
theorem m_last (hx : p.tables.exec = Jvm.exec) (hb : c.code = cc) (hK : va_K G.1 cl (xtys G) s) (h0 : xlowOK S K0) (hR : xRel cl G S K0 V0 ad0 ad M H) (hS : va_S (fun q => G.2.2.1 ≤ q) s.heap H locs) {r : Nat} (ht : (M.2.2.2.1 r).1 = 22) {i : Int32} {x : Int64} (hin : vp_in i (M.2.2.2.1 r).2) (hdg : decode cc pc = .ok (.lastore, 1))
    (kk : ∀ (H1 : Heap) (locs1 : List Loc), xRel cl G S K0 V0 ad0 ad (M.1, up2 M.2.1 r i.toNatClampNeg x.toInt, M.2.2) H1 → va_S (fun q => G.2.2.1 ≤ q) s.heap H1 locs1 → W p l e R s m args below meth c H1 locs1 cells slots Q (F0 m (pc + 1) ls rest)) : W p l e R s m args below meth c H locs cells slots Q (F0 m pc ls (.long x :: .int i :: .ref (ad r) :: rest)) := by
  obtain ⟨g1, g2⟩ := hR.made h0 (a := r) (by omega) (by omega) (by omega)
  have hat := xws_at (cl := cl) (ca := G.2.1) (ad := ad) (S := S) (M := M) g1 g2
  rw [xcell_long ht] at hat
  refine va_last (D := G.1) hx hb hK hR.2.1 hR.2.2.1 hS (r - S) 1 hat rfl hin hdg fun H1 locs1 hP1 hD1 hS1 => kk H1 locs1 ?_ hS1
  refine hR.upd (M' := (M.1, up2 M.2.1 r i.toNatClampNeg x.toInt, M.2.2)) g1 g2 rfl (fun _ _ _ => rfl) (fun b j hb => up2_ne (fun q => hb q.1)) (fun _ _ _ => rfl) (hR.2.2.2.1 r) (r64_up2 hR.2.2.2.2.1 (r64_of x) r) (hR.2.2.2.2.2.1 r) ?_ hP1 hD1
  rw [xcell_long (M := (M.1, up2 M.2.1 r i.toNatClampNeg x.toInt, M.2.2)) ht]
  congr 5
  funext j
  unfold vp_updL
  dsimp only
  by_cases hj : j = i.toNatClampNeg
  · rw [if_pos hj, hj, up2_eq, Int64.ofInt_toInt]
  · rw [if_neg hj, up2_ne (fun q => hj q.2)]
theorem m_aast (hx : p.tables.exec = Jvm.exec) (hb : c.code = cc) (hcl : xClOK cl Tg) (hK : va_K G.1 cl (xtys G) s) (h0 : xlowOK S K0) (hR : xRel cl G S K0 V0 ad0 ad M H) (hS : va_S (fun q => G.2.2.1 ≤ q) s.heap H locs) {r x cn N : Nat} {T : u_T} (ht : (M.2.2.2.1 r).1 = 24) (hc : cl[cn]? = some ("EarRooms$State", T, N)) (htx : (M.2.2.2.1 x).1 = cn + 1) {i : Int32} (hin : vp_in i (M.2.2.2.1 r).2) (hdg : decode cc pc = .ok (.aastore, 1))
    (kk : ∀ (H1 : Heap) (locs1 : List Loc), xRel cl G S K0 V0 ad0 ad (M.1, M.2.1, up2 M.2.2.1 r i.toNatClampNeg x, M.2.2.2) H1 → va_S (fun q => G.2.2.1 ≤ q) s.heap H1 locs1 → W p l e R s m args below meth c H1 locs1 cells slots Q (F0 m (pc + 1) ls rest)) : W p l e R s m args below meth c H locs cells slots Q (F0 m pc ls (.ref (ad x) :: .int i :: .ref (ad r) :: rest)) := by
  have hcn : cn < cl.length := (List.getElem?_eq_some_iff.mp hc).1
  have h20 := hcl.1
  obtain ⟨g1, g2⟩ := hR.made h0 (a := r) (by omega) (by omega) (by omega)
  obtain ⟨g3, g4⟩ := hR.made h0 (a := x) (by omega) (by omega) (by omega)
  have hat := xws_at (cl := cl) (ca := G.2.1) (ad := ad) (S := S) (M := M) g1 g2
  have hax := xws_at (cl := cl) (ca := G.2.1) (ad := ad) (S := S) (M := M) g3 g4
  rw [xcell_ref ht (Or.inl rfl)] at hat
  rw [xcell_obj hc (by omega) htx] at hax
  refine va_astq (D := G.1) (r := ("EarRooms$State", T, N)) hx hb hK hR.2.1 hR.2.2.1 hS (r - S) 3 (x - S) cn hat rfl hax hc hin hdg fun H1 locs1 hP1 hD1 hS1 => kk H1 locs1 ?_ hS1
  have hx0 : x ≠ 0 := by
    intro q
    subst q
    have := ((hR.2.2.2.2.2.2.2.2 0 h0.1).1)
    rw [this] at htx
    rcases h0.2 0 h0.1 with q | q | q <;> omega
  refine hR.upd (M' := (M.1, M.2.1, up2 M.2.2.1 r i.toNatClampNeg x, M.2.2.2)) g1 g2 rfl (fun _ _ _ => rfl) (fun _ _ _ => rfl) (fun b j hb => up2_ne (fun q => hb q.1)) (hR.2.2.2.1 r) (hR.2.2.2.2.1 r) (fun j => by
    show up2 M.2.2.1 r i.toNatClampNeg x r j < _
    unfold up2
    split
    · exact g4
    · exact hR.2.2.2.2.2.1 r j) ?_ hP1 hD1
  rw [xcell_ref (M := (M.1, M.2.1, up2 M.2.2.1 r i.toNatClampNeg x, M.2.2.2)) ht (Or.inl rfl)]
  congr 7
  funext j
  unfold va_up
  dsimp only
  by_cases hj : j = i.toNatClampNeg
  · rw [if_pos hj, hj, up2_eq, xrf, if_neg hx0]
  · rw [if_neg hj, up2_ne (fun q => hj q.2)]
end ROWS
