/-! ===== ONE STEP OF THE PLAIN MACHINE IS ONE OF THE JVM ===== -/
theorem q_nx {pc : Nat} {ls st : List xV} {M : xM} {g g' : List Prop} {o : xOut} (h : nx pc ls st M g = some (o, g')) : o = .inl (pc, ls, st, M) ∧ g' = g := by
  unfold nx at h
  cases h
  exact ⟨rfl, rfl⟩
theorem q_ldI {pc i : Nat} {ls st : List xV} {M : xM} {g : List Prop} {o : xOut} (h : xldI pc ls st M i = some (o, g)) : ∃ x, ls[i]? = some (.inl x) ∧ o = .inl (pc, ls, vi x :: st, M) := by
  unfold xldI at h
  split at h
  · rename_i x hx
    exact ⟨x, hx, (q_nx h).1⟩
  · cases h
theorem q_ldL {pc i : Nat} {ls st : List xV} {M : xM} {g : List Prop} {o : xOut} (h : xldL pc ls st M i = some (o, g)) : ∃ x, ls[i]? = some (.inr (.inl x)) ∧ o = .inl (pc, ls, vl x :: st, M) := by
  unfold xldL at h
  split at h
  · rename_i x hx
    exact ⟨x, hx, (q_nx h).1⟩
  · cases h
theorem q_ldA {pc i : Nat} {ls st : List xV} {M : xM} {g : List Prop} {o : xOut} (h : xldA pc ls st M i = some (o, g)) : ∃ x, ls[i]? = some (.inr (.inr x)) ∧ o = .inl (pc, ls, vr x :: st, M) ∧ g = [x ≠ 0] := by
  unfold xldA at h
  split at h
  · rename_i x hx
    exact ⟨x, hx, (q_nx h).1, (q_nx h).2⟩
  · cases h
theorem q_stI {pc i : Nat} {ls st : List xV} {M : xM} {g : List Prop} {o : xOut} (h : xstI pc ls st M i = some (o, g)) : ∃ x r, st = .inl x :: r ∧ o = .inl (pc, xset1 ls i (vi x), r, M) ∧ g = [i < ls.length] := by
  unfold xstI at h
  split at h
  · exact ⟨_, _, rfl, (q_nx h).1, (q_nx h).2⟩
  · cases h
theorem q_stL {pc i : Nat} {ls st : List xV} {M : xM} {g : List Prop} {o : xOut} (h : xstL pc ls st M i = some (o, g)) : ∃ x r, st = .inr (.inl x) :: r ∧ o = .inl (pc, xset2 ls i (vl x), r, M) ∧ g = [i + 1 < ls.length] := by
  unfold xstL at h
  split at h
  · exact ⟨_, _, rfl, (q_nx h).1, (q_nx h).2⟩
  · cases h
theorem q_stA {pc i : Nat} {ls st : List xV} {M : xM} {g : List Prop} {o : xOut} (h : xstA pc ls st M i = some (o, g)) : ∃ x r, st = .inr (.inr x) :: r ∧ o = .inl (pc, xset1 ls i (vr x), r, M) ∧ g = [i < ls.length] := by
  unfold xstA at h
  split at h
  · exact ⟨_, _, rfl, (q_nx h).1, (q_nx h).2⟩
  · cases h
theorem q_II {pc : Nat} {ls st : List xV} {M : xM} {f : Int → Int → Int} {g : List Prop} {o : xOut} (h : xII pc ls st M f = some (o, g)) : ∃ x y r, st = .inl y :: .inl x :: r ∧ o = .inl (pc, ls, vi (f x y) :: r, M) := by
  unfold xII at h
  split at h
  · exact ⟨_, _, _, rfl, (q_nx h).1⟩
  · cases h
theorem q_LL {pc : Nat} {ls st : List xV} {M : xM} {f : Int → Int → Int} {g : List Prop} {o : xOut} (h : xLL pc ls st M f = some (o, g)) : ∃ x y r, st = .inr (.inl y) :: .inr (.inl x) :: r ∧ o = .inl (pc, ls, vl (f x y) :: r, M) := by
  unfold xLL at h
  split at h
  · exact ⟨_, _, _, rfl, (q_nx h).1⟩
  · cases h
def xIsPure (ins : Instr) : Prop := match ins with
  | .iconst _ | .bipush _ | .sipush _ | .ldc2_w _ | .lconst _ | .iload _ | .iload_n _ | .lload _ | .lload_n _ | .aload _ | .aload_n _ | .istore _ | .istore_n _ | .lstore _ | .lstore_n _ | .astore _ | .astore_n _ | .iinc _ _
  | .iadd | .isub | .imul | .iand | .ior | .ixor | .ishl | .ishr | .iushr | .idiv | .irem | .ineg | .ladd | .lmul | .land | .lor | .ldiv | .lshl | .lcmp | .i2l | .l2i | .i2c | .pop | .dup | .dup2 => True
  | _ => False
def xIsMem (ins : Instr) : Prop := match ins with
  | .goto _ | .ifCond _ _ | .if_icmp _ _ | .tableswitch _ _ _ _ | .ldc _ | .ldc_w _ | .getstatic _ | .getfield _ | .putfield _ | .iaload | .iastore | .laload | .lastore | .baload | .bastore | .aaload | .aastore | .arraylength | .new _ | .newarray _ | .anewarray _ | .multianewarray _ _ | .invokestatic _ | .invokespecial _ | .invokevirtual _ => True
  | _ => False
def xCx (T : xTT) (l : Launch) (y : Nat) (p : Program) (s : State) (m : MethodId) (args : Array Value) (meth : Method) (c : Code) : Prop :=
  p.tables.exec = Jvm.exec ∧ c.code = tbt T y ∧ meth.sig.returnType = trt T y ∧ s.vm.findClass (tnm T y).cls = some m.cls ∧ (∀ w ∈ tTg T, w.before args s = true) ∧ meth.locks = false ∧ c.maxLocals = (tP T).2.1 y ∧ c.exceptionTable.toList = tableOf (thh T y) ∧ meth.name = (tnm T y).name ∧ l.stackTraces = false
/-- four members of the JDK, each as one instruction -/
def xI1 (T : xTT) (G : xG) (l : Launch) : Prop := ∀ {p : Program} {e : Env} {R : Room} {s : State} {m : MethodId} {args : Array Value} {below : List Frame} {meth : Method} {c : Code} {H : Heap} {locs : List Loc} {cells slots : Nat} {Q : State → Prop} {pc : Nat} {ls : Array Slot} {rest : List Value} {own : String} {idx i : Nat},
  p.tables.exec = Jvm.exec → c.maxLocals = ls.size → s.vm.findClass own = some m.cls → (∀ w ∈ tTg T, w.before args s = true) → xGr T G s s.heap → va_S (xA G) s.heap H locs → 8 ≤ R.frames → 512 ≤ R.locals → cells ≤ R.cells → slots ≤ R.slots → (rest.map fun v => v.category).sum ≤ 8 → Cond.methodLink own idx oString_length ∈ tTg T → i < tnS T → decode c.code pc = .ok (.invokevirtual idx, 3) →
  (∀ r : Int32, r.toInt = ((tlen T).getD i 0 : Int) → W p l e R s m args below meth c H locs cells slots Q (F0 m (pc + 3) ls (.int r :: rest))) → W p l e R s m args below meth c H locs cells slots Q (F0 m pc ls (.ref (G.2.2.2.2.2.1 i) :: rest))
def xI2 (T : xTT) (G : xG) (l : Launch) : Prop := ∀ {p : Program} {e : Env} {R : Room} {s : State} {m : MethodId} {args : Array Value} {below : List Frame} {meth : Method} {c : Code} {H : Heap} {locs : List Loc} {cells slots : Nat} {Q : State → Prop} {pc : Nat} {ls : Array Slot} {rest : List Value} {own : String} {idx i : Nat} {k : Int32},
  p.tables.exec = Jvm.exec → c.maxLocals = ls.size → s.vm.findClass own = some m.cls → (∀ w ∈ tTg T, w.before args s = true) → xGr T G s s.heap → va_S (xA G) s.heap H locs → 8 ≤ R.frames → 512 ≤ R.locals → cells ≤ R.cells → slots ≤ R.slots → (rest.map fun v => v.category).sum ≤ 8 → Cond.methodLink own idx oString_charAt ∈ tTg T → i < tnS T → vp_in k ((tlen T).getD i 0) → decode c.code pc = .ok (.invokevirtual idx, 3) →
  (∀ r : Int32, r.toInt = tV0 T G.2.2.2.1.2.2 (3 + i) k.toInt.toNat → W p l e R s m args below meth c H locs cells slots Q (F0 m (pc + 3) ls (.int r :: rest))) → W p l e R s m args below meth c H locs cells slots Q (F0 m pc ls (.int k :: .ref (G.2.2.2.2.2.1 i) :: rest))
def xI3 (T : xTT) (G : xG) (l : Launch) : Prop := ∀ {p : Program} {e : Env} {R : Room} {s : State} {m : MethodId} {args : Array Value} {below : List Frame} {meth : Method} {c : Code} {H : Heap} {locs : List Loc} {cells slots : Nat} {Q : State → Prop} {pc : Nat} {ls : Array Slot} {rest : List Value} {own : String} {idx i : Nat} {k : Int32},
  p.tables.exec = Jvm.exec → c.maxLocals = ls.size → s.vm.findClass own = some m.cls → (∀ w ∈ tTg T, w.before args s = true) → xGr T G s s.heap → va_S (xA G) s.heap H locs → 8 ≤ R.frames → 512 ≤ R.locals → cells ≤ R.cells → slots ≤ R.slots → (rest.map fun v => v.category).sum ≤ 8 → Cond.methodLink own idx oString_indexOf ∈ tTg T → i < tnS T → decode c.code pc = .ok (.invokevirtual idx, 3) →
  (∀ r : Int32, r.toInt = xixF (tV0 T G.2.2.2.1.2.2) (3 + i) k.toInt ((tlen T).getD i 0) 0 → W p l e R s m args below meth c H locs cells slots Q (F0 m (pc + 3) ls (.int r :: rest))) → W p l e R s m args below meth c H locs cells slots Q (F0 m pc ls (.int k :: .ref (G.2.2.2.2.2.1 i) :: rest))
def xI4 (T : xTT) (G : xG) (l : Launch) : Prop := ∀ {p : Program} {e : Env} {R : Room} {s : State} {m : MethodId} {args : Array Value} {below : List Frame} {meth : Method} {c : Code} {H : Heap} {locs : List Loc} {cells slots : Nat} {Q : State → Prop} {pc : Nat} {ls : Array Slot} {rest : List Value} {own : String} {idx r : Nat} {x : Int32} {ad : Nat → Nat} {M : xM},
  p.tables.exec = Jvm.exec → c.maxLocals = ls.size → s.vm.findClass own = some m.cls → (∀ w ∈ tTg T, w.before args s = true) → xGr T G s s.heap → G.2.2.1 ≤ s.heap.size → xRelT T G ad M H → va_S (xA G) s.heap H locs → 8 ≤ R.frames → 512 ≤ R.locals → cells + 1 ≤ R.cells → slots + x.toInt.toNat ≤ R.slots → (rest.map fun v => v.category).sum ≤ 8 → Cond.methodLink own idx oArrays_copyOf ∈ tTg T → (M.2.2.2.1 r).1 = 20 → 0 ≤ x.toInt ∧ x.toInt ≤ 60000000 → decode c.code pc = .ok (.invokestatic idx, 3) →
  (∀ (q : Nat) (H1 : Heap) (locs1 : List Loc), xRelT T G (up1 ad M.2.2.2.2.1 q) ((fun b j => if b = M.2.2.2.2.1 then (if j < x.toInt.toNat ∧ j < (M.2.2.2.1 r).2 then M.1 r j else 0) else M.1 b j), zr M.2.1 M.2.2.2.2.1, zrR M.2.2.1 M.2.2.2.2.1, up1 M.2.2.2.1 M.2.2.2.2.1 (20, x.toInt.toNat), M.2.2.2.2.1 + 1, M.2.2.2.2.2.1 + 1, M.2.2.2.2.2.2 + x.toInt.toNat) H1 → va_S (xA G) s.heap H1 locs1 →
    W p l e R s m args below meth c H1 locs1 (cells + 1) (slots + x.toInt.toNat) Q (F0 m (pc + 3) ls (.ref q :: rest))) → W p l e R s m args below meth c H locs cells slots Q (F0 m pc ls (.int x :: .ref (ad r) :: rest))
def xIn (T : xTT) (G : xG) (l : Launch) : Prop := xI1 T G l ∧ xI2 T G l ∧ xI3 T G l ∧ xI4 T G l
section STEP
variable {T : xTT} {G : xG} {l : Launch} {y : Nat}
variable {p : Program} {e : Env} {R : Room} {s : State} {m : MethodId} {args : Array Value} {below : List Frame} {meth : Method} {c : Code} {H : Heap} {locs : List Loc} {cells slots : Nat} {Q : State → Prop}
variable {pc : Nat} {ls : Array Slot} {st : List Value} {ad : Nat → Nat} {M M' : xM} {als als' ast ast' : List xV} {pc' nL : Nat}
/-- what is left to show behind a step -/
def xKK (T : xTT) (G : xG) (l : Launch) (p : Program) (e : Env) (R : Room) (s : State) (m : MethodId) (args : Array Value) (below : List Frame) (meth : Method) (c : Code) (Q : State → Prop) (nL : Nat) (ad : Nat → Nat) (M : xM) (cells slots : Nat) (pc' : Nat) (als' ast' : List xV) (M' : xM) : Prop :=
  ∀ (ad' : Nat → Nat) (H' : Heap) (locs' : List Loc) (cells' slots' : Nat) (ls' : Array Slot) (st' : List Value), xRelT T G ad' M' H' → xRL ad' M'.2.2.2.2.1 nL ls' als' → xRS ad' M'.2.2.2.2.1 st' ast' → va_S (xA G) s.heap H' locs' → (∀ a, a < M.2.2.2.2.1 → ad' a = ad a) → M.2.2.2.2.1 ≤ M'.2.2.2.2.1 → cells' + M.2.2.2.2.2.1 = cells + M'.2.2.2.2.2.1 → slots' + M.2.2.2.2.2.2 = slots + M'.2.2.2.2.2.2 →
    W p l e R s m args below meth c H' locs' cells' slots' Q (F0 m pc' ls' st')
theorem xKK.same (kk : xKK T G l p e R s m args below meth c Q nL ad M cells slots pc' als' ast' M) (hR : xRelT T G ad M H) (hS : va_S (xA G) s.heap H locs) {ls' : Array Slot} {st' : List Value} (h1 : xRL ad M.2.2.2.2.1 nL ls' als') (h2 : xRS ad M.2.2.2.2.1 st' ast') : W p l e R s m args below meth c H locs cells slots Q (F0 m pc' ls' st') :=
  kk ad H locs cells slots ls' st' hR h1 h2 hS (fun _ _ => rfl) (Nat.le_refl _) rfl rfl
theorem xKK.put (kk : xKK T G l p e R s m args below meth c Q nL ad M cells slots pc' als' ast' M') (hz : M'.2.2.2 = M.2.2.2) (hR : xRelT T G ad M' H) (hS : va_S (xA G) s.heap H locs) {ls' : Array Slot} {st' : List Value} (h1 : xRL ad M.2.2.2.2.1 nL ls' als') (h2 : xRS ad M.2.2.2.2.1 st' ast') : W p l e R s m args below meth c H locs cells slots Q (F0 m pc' ls' st') :=
  kk ad H locs cells slots ls' st' hR (by rw [hz]; exact h1) (by rw [hz]; exact h2) hS (fun _ _ => rfl) (by rw [hz]; exact Nat.le_refl _) (by rw [hz]) (by rw [hz])
/-- reading a row of numbers: made, or of the ground -/
theorem m_ialdT (hcl : (tcl T).length < 20) (hx : p.tables.exec = Jvm.exec) (hGr : xGr T G s s.heap) (hR : xRelT T G ad M H) (hS : va_S (xA G) s.heap H locs) {r : Nat} {rest : List Value} (h1 : 20 ≤ (M.2.2.2.1 r).1 ∧ (M.2.2.2.1 r).1 ≤ 21) {i : Int32} {z : Int} (ei : i.toInt = z) (hin : 0 ≤ z ∧ z < ((M.2.2.2.1 r).2 : Int)) (hdg : decode c.code pc = .ok (.iaload, 1))
    (kk : ∀ w : Int32, w.toInt = M.1 r z.toNat → W p l e R s m args below meth c H locs cells slots Q (F0 m (pc + 1) ls (.int w :: rest))) : W p l e R s m args below meth c H locs cells slots Q (F0 m pc ls (.int i :: .ref (ad r) :: rest)) := by
  have hvin := o_in ei hin
  have ec := o_clamp ei
  by_cases h20 : (M.2.2.2.1 r).1 = 20
  · refine m_iald hx rfl hGr.1 (t_low T _) hR h20 hvin hdg (kk _ ?_)
    rw [i32_of (hR.2.2.2.1 _ _), ec]
  · have h21 : (M.2.2.2.1 r).1 = 21 := by omega
    have hrn : r < M.2.2.2.2.1 := Nat.lt_of_not_le fun q => by rw [hR.2.2.2.2.2.2.2.1 r q] at h21; cases h21
    have hrS : r < tS T := Nat.lt_of_not_le fun q => by
      have := (hR.2.2.2.2.2.2.1 r q hrn).1
      rw [h21] at this
      rcases this with ⟨-, h⟩ | h | h | h | h | h
      all_goals omega
    obtain ⟨g1, g2, g3⟩ := hR.2.2.2.2.2.2.2.2 r hrS
    have hr : r = 1 ∨ r = 2 := by
      rw [g1] at h21
      unfold tK0 at h21
      split at h21
      · cases h21
      · split at h21
        · rename_i h; exact Or.inl h
        · split at h21
          · rename_i h; exact Or.inr h
          · cases h21
    rcases hr with h | h
    · subst h
      obtain ⟨-, ⟨q1, q2, q3, -⟩, -⟩ := hGr
      have e1 : ad 1 = G.2.2.2.1.1 := by rw [g3]; rfl
      have e2 : (M.2.2.2.1 1).2 = G.2.2.2.1.2.1 := by rw [g1]; rfl
      rw [e1]
      refine va_sld (A := xA G) hx rfl q1 q2 q3 hS (by rw [← e2]; exact hvin) hdg (kk _ ?_)
      rw [g2, ec]
      rfl
    · subst h
      obtain ⟨-, -, ⟨-, q1⟩, -⟩ := hGr
      have e1 : ad 2 = G.2.2.2.2.1 := by rw [g3]; rfl
      have e2 : (M.2.2.2.1 2).2 = 5 := by rw [g1]; rfl
      rw [e1]
      refine va_ti (A := xA G) hx rfl q1 hS (by rw [← e2]; exact hvin) rfl hdg (kk _ ?_)
      rw [g2, ec]
      show (Int32.ofInt (xback5 z.toNat)).toInt = xback5 z.toNat
      apply i32_of
      unfold xback5 r32
      repeat' split
      all_goals omega
end STEP
