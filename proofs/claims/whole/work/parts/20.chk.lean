/-! ===== A TABLE'S LINKS, CHECKED BY THE KERNEL ===== -/
def xtyB (d : String) : Bool := match parseFieldDescriptor d with
  | some ty => xtyk ty == xfk d
  | none => false
def xClB (r : vw_C) : Bool := (List.range r.2.2).all (fun k => xtyB (r.2.1 k).2.2.1) && (List.range r.2.2).all (fun a => (List.range r.2.2).all (fun b => a == b || !decide ((r.2.1 a).2.1 = (r.2.1 b).2.1)))
theorem xClOK_of {cl : List vw_C} {Tg : List Cond} (h0 : cl.length < 20) (h1 : ∀ (cn : Nat) (r : vw_C), cl[cn]? = some r → ∀ w ∈ u_ws r.1 r.2.1 r.2.2, w ∈ Tg) (h2 : cl.all xClB = true) : xClOK cl Tg := by
  refine ⟨h0, fun cn r hr => ⟨h1 cn r hr, ?_, ?_⟩⟩
  · have h3 := List.all_eq_true.mp h2 r (List.mem_of_getElem? hr)
    unfold xClB at h3
    simp only [Bool.and_eq_true, List.all_eq_true, List.mem_range] at h3
    have h4 : ∀ k, ∃ ty, k < r.2.2 → parseFieldDescriptor (r.2.1 k).2.2.1 = some ty ∧ xtyk ty = xfk (r.2.1 k).2.2.1 := by
      intro k
      by_cases hk : k < r.2.2
      · have h5 := h3.1 k hk
        unfold xtyB at h5
        split at h5
        · rename_i ty hty
          exact ⟨ty, fun _ => ⟨hty, by simpa using h5⟩⟩
        · cases h5
      · exact ⟨.int, fun h => absurd h hk⟩
    obtain ⟨ty, hty⟩ := Classical.axiomOfChoice h4
    exact ⟨ty, hty⟩
  · have h3 := List.all_eq_true.mp h2 r (List.mem_of_getElem? hr)
    unfold xClB at h3
    simp only [Bool.and_eq_true, List.all_eq_true, List.mem_range] at h3
    intro a ha b hb hab
    have h4 := h3.2 a ha b hb
    simp only [Bool.or_eq_true, beq_iff_eq, Bool.not_eq_true', decide_eq_false_iff_not] at h4
    rcases h4 with h | h
    · exact absurd h hab
    · exact h
/-- class, fields, size of a number -/
def xC (T : xTT) (cn : Nat) : vw_C := (tcl T).getD cn ("", fun _ => ("", "", "I", false), 0)
/-- the words that a row rests on -/
def xWd (T : xTT) (y : Nat) (e : xI) : List Cond := match e with
  | (pc, ins, len, a, b, c, z) => match ins with
    | .ldc i => if a = 0 then [Cond.constant (tnm T y).cls i (Int32.ofInt z)] else []
    | .ldc_w i => if a = 0 then [Cond.constant (tnm T y).cls i (Int32.ofInt z)] else []
    | .ldc2_w i => [Cond.constantLong (tnm T y).cls i (Int64.ofInt z)]
    | .getstatic i => [Cond.fieldLink (tnm T y).cls i "EarRooms$Sound" "BACK" "[I"]
    | .getfield i => [Cond.fieldLink (tnm T y).cls i (xC T (a - 1)).1 ((xC T (a - 1)).2.1 b).2.1 ((xC T (a - 1)).2.1 b).2.2.1]
    | .putfield i => [Cond.fieldLink (tnm T y).cls i (xC T (a - 1)).1 ((xC T (a - 1)).2.1 b).2.1 ((xC T (a - 1)).2.1 b).2.2.1]
    | .new i => match c with
      | 0 => [Cond.classLink (tnm T y).cls i (xC T (a - 1)).1, Cond.instantiable (xC T (a - 1)).1 b, Cond.initialized (xC T (a - 1)).1]
      | _ => []
    | .newarray t => [Cond.arrayClass (newarray.typeOf t)]
    | .anewarray i => [Cond.classLink (tnm T y).cls i "EarRooms$State"]
    | .multianewarray i _ => [Cond.classLink (tnm T y).cls i "[[I", Cond.arrayClass .int]
    | .invokestatic i => match b with
      | 0 => [Cond.methodLink (tnm T y).cls i (tnm T a), Cond.static (tnm T a)]
      | 1 => [Cond.methodLink (tnm T y).cls i arraycopyName, Cond.native arraycopyName, Cond.static arraycopyName, Cond.initialized "java/lang/System"]
      | _ => [Cond.methodLink (tnm T y).cls i oArrays_copyOf]
    | .invokespecial i => match b with
      | 0 => [Cond.methodLink (tnm T y).cls i (tnm T a), Cond.instanceMethod (tnm T a)]
      | _ => [Cond.methodLink (tnm T y).cls i objectInit, Cond.instanceMethod objectInit, Cond.code objectInit ⟨#[0xb1]⟩ 1 none]
    | .invokevirtual i => match b with
      | 0 => [Cond.methodLink (tnm T y).cls i (tnm T a), Cond.instanceMethod (tnm T a), Cond.selects (tnm T a).cls (tnm T a) (tnm T a)]
      | 1 => [Cond.methodLink (tnm T y).cls i oString_length]
      | 2 => [Cond.methodLink (tnm T y).cls i oString_charAt]
      | _ => [Cond.methodLink (tnm T y).cls i oString_indexOf]
    | _ => []
def xr32 (z : Int) : Bool := decide (-2147483648 ≤ z) && decide (z < 2147483648)
def xr64 (z : Int) : Bool := decide (-9223372036854775808 ≤ z) && decide (z < 9223372036854775808)
def xarB (y : MethodName) (n : Nat) : Bool := match parseMethodDescriptor y.desc with
  | some d => d.parameters.length == n
  | none => false
/-- what else a row rests on; nM: how many methods there are -/
def xSd (T : xTT) (nM y : Nat) (e : xI) : Bool := match e with
  | (pc, ins, len, a, b, c, z) => match ins with
    | .iconst n => len == 1 && xr32 n
    | .bipush n => len == 2 && decide ((Int8.ofInt n).toInt32 = Int32.ofInt n) && xr32 n
    | .sipush n => len == 3 && decide ((Int16.ofInt n).toInt32 = Int32.ofInt n) && xr32 n
    | .ldc i => len == 2 && ((a == 0 && xr32 z) || (a == 1 && decide (3 ≤ b) && (tsl T).any (fun q => q.1 == (tnm T y).cls && (q.2.1 == i && q.2.2.2 == b - 3))))
    | .ldc_w i => len == 3 && ((a == 0 && xr32 z) || (a == 1 && decide (3 ≤ b) && (tsl T).any (fun q => q.1 == (tnm T y).cls && (q.2.1 == i && q.2.2.2 == b - 3))))
    | .ldc2_w i => len == 3 && xr64 z
    | .lconst _ | .iload_n _ | .lload_n _ | .aload_n _ | .istore_n _ | .lstore_n _ | .astore_n _ => len == 1
    | .iload _ | .lload _ | .aload _ | .istore _ | .lstore _ | .astore _ => len == 2
    | .iinc _ _ => len == 3
    | .iadd | .isub | .imul | .iand | .ior | .ixor | .ishl | .ishr | .iushr | .idiv | .irem | .ineg | .ladd | .lmul | .land | .lor | .ldiv | .lshl | .lcmp | .i2l | .l2i | .i2c | .pop | .dup | .dup2 => len == 1
    | .goto o => len == 3 && decide ((pc : Int) + o = (a : Int))
    | .ifCond _ o => len == 3 && decide ((pc : Int) + o = (a : Int))
    | .if_icmp _ o => len == 3 && decide ((pc : Int) + o = (a : Int))
    | .tableswitch d lo hi offs => decide (0 ≤ (pc : Int) + d) && offs.toList.all (fun o => decide (0 ≤ (pc : Int) + o)) && decide (hi = lo + offs.size - 1)
    | .getstatic i => len == 3 && b == 2
    | .getfield i => len == 3 && decide (1 ≤ a) && decide (a ≤ (tcl T).length) && decide (b < (xC T (a - 1)).2.2) && decide (((xC T (a - 1)).2.1 b).1 = (xC T (a - 1)).1) && c == (if xfk ((xC T (a - 1)).2.1 b).2.2.1 = 3 then 0 else xfk ((xC T (a - 1)).2.1 b).2.2.1)
    | .putfield i => len == 3 && decide (1 ≤ a) && decide (a ≤ (tcl T).length) && decide (b < (xC T (a - 1)).2.2) && decide (((xC T (a - 1)).2.1 b).1 = (xC T (a - 1)).1) && c == xfk ((xC T (a - 1)).2.1 b).2.2.1 && (!((xC T (a - 1)).2.1 b).2.2.2 || (decide ((tnm T y).name = "<init>") && decide ((tnm T y).cls = (xC T (a - 1)).1)))
    | .iaload | .iastore | .laload | .lastore | .baload | .bastore | .aaload | .arraylength => len == 1
    | .aastore => len == 1 && decide (1 ≤ a) && decide (a ≤ (tcl T).length) && decide ((xC T (a - 1)).1 = "EarRooms$State")
    | .new i => match c with
      | 0 => len == 3 && decide (1 ≤ a) && decide (a ≤ (tcl T).length) && b == (xC T (a - 1)).2.2
      | _ => true
    | .newarray t => len == 2 && ((a == 20 && decide (t = .int)) || (a == 22 && decide (t = .long)) || (a == 23 && decide (t = .boolean)))
    | .anewarray i => len == 3
    | .multianewarray i d => d == 2 && len == 4
    | .invokestatic i => len == 3 && match b with
      | 0 => decide (a < nM) && xarB (tnm T a) c
      | _ => true
    | .invokespecial i => len == 3 && match b with
      | 0 => decide (a < nM) && decide ((tnm T a).name = "<init>") && decide (trt T a = none) && decide (1 ≤ c) && xarB (tnm T a) (c - 1) && decide (thh T a = [])
      | _ => true
    | .invokevirtual i => len == 3 && match b with
      | 0 => decide (a < nM) && decide (1 ≤ c) && xarB (tnm T a) (c - 1) && decide (thh T a = []) && decide (1 ≤ z) && decide (z.toNat - 1 < (tcl T).length) && decide ((xC T (z.toNat - 1)).1 = (tnm T a).cls)
      | _ => true
    | .ireturn => len == 1 && ((a == 3 && decide (trt T y = some .boolean)) || (a == 2 && decide (trt T y = some .char)) || (a == 0 && decide (trt T y = some .int)))
    | .lreturn => len == 1 && decide (trt T y = some .long)
    | .areturn => len == 1 && (match trt T y with | some (.object _) => true | some (.array _) => true | _ => false)
    | .return_ => len == 1 && decide (trt T y = none)
    | _ => false
theorem xr32_of {z : Int} (h : xr32 z = true) : r32 z := by
  simp only [xr32, Bool.and_eq_true, decide_eq_true_eq] at h
  exact h
theorem xr64_of {z : Int} (h : xr64 z = true) : r64 z := by
  simp only [xr64, Bool.and_eq_true, decide_eq_true_eq] at h
  exact h
theorem xar_of {y : MethodName} {n : Nat} (h : xarB y n = true) : xar y n := by
  unfold xarB at h
  unfold xar
  split at h
  · rename_i d hd
    rw [hd]
    simp only [beq_iff_eq] at h
    rw [← h]; rfl
  · cases h
theorem xC_at {T : xTT} {cn : Nat} (h : cn < (tcl T).length) : (tcl T)[cn]? = some ((xC T cn).1, (xC T cn).2.1, (xC T cn).2.2) := by
  unfold xC
  rw [List.getD_eq_getElem?_getD, List.getElem?_eq_getElem h]
  rfl
/-- a row that throws a new exception; a row that calls -/
def xThr (e : xI) : Bool := match e.2.1 with | .new _ => !(e.2.2.2.2.2.1 == 0) | _ => false
def xInv (e : xI) : Bool := match e.2.1 with | .invokestatic _ | .invokespecial _ | .invokevirtual _ => e.2.2.2.2.1 == 0 | _ => false
set_option maxHeartbeats 4000000 in
theorem xLk_of {T : xTT} {nM y : Nat} {e : xI} (hd : decode (tbt T y) e.1 = .ok (e.2.1, e.2.2.1)) (hw : ∀ w ∈ xWd T y e, w ∈ tTg T) (hs : xSd T nM y e = true) (hM : ∀ a, a < nM → xMd T a) (hcat : xInv e = true → xCat T y e.1)
    (hthrow : xThr e = true → xLk2 T y e) : xLk T y e := by
  refine ⟨hd, ?_⟩
  obtain ⟨pc, ins, len, a, b, c, z⟩ := e
  cases ins <;> first | (exfalso; simp [xSd] at hs; done) | skip
  all_goals simp only [xSd, Bool.and_eq_true, Bool.or_eq_true, beq_iff_eq, decide_eq_true_eq] at hs
  all_goals simp only [xLk2]
  case iconst n => exact ⟨hs.1, xr32_of hs.2⟩
  case bipush n => exact ⟨hs.1.1, hs.1.2, xr32_of hs.2⟩
  case sipush n => exact ⟨hs.1.1, hs.1.2, xr32_of hs.2⟩
  case ldc i =>
    refine ⟨hs.1, ?_⟩
    rcases hs.2 with ⟨h, h2⟩ | ⟨⟨h, h2⟩, h3⟩
    · subst h
      exact Or.inl ⟨rfl, xr32_of h2, hw _ (by simp [xWd])⟩
    · obtain ⟨q, hq, hq2⟩ := List.any_eq_true.mp h3
      simp only [Bool.and_eq_true, beq_iff_eq] at hq2
      obtain ⟨q1, q2, q3, q4⟩ := q
      obtain ⟨g1, g2, g3⟩ := hq2
      dsimp only at g1 g2 g3
      subst g1; subst g2
      refine Or.inr ⟨h, q4, q3, by omega, hq⟩
  case ldc_w i =>
    refine ⟨hs.1, ?_⟩
    rcases hs.2 with ⟨h, h2⟩ | ⟨⟨h, h2⟩, h3⟩
    · subst h
      exact Or.inl ⟨rfl, xr32_of h2, hw _ (by simp [xWd])⟩
    · obtain ⟨q, hq, hq2⟩ := List.any_eq_true.mp h3
      simp only [Bool.and_eq_true, beq_iff_eq] at hq2
      obtain ⟨q1, q2, q3, q4⟩ := q
      obtain ⟨g1, g2, g3⟩ := hq2
      dsimp only at g1 g2 g3
      subst g1; subst g2
      refine Or.inr ⟨h, q4, q3, by omega, hq⟩
  case ldc2_w i => exact ⟨hs.1, xr64_of hs.2, hw _ (by simp [xWd])⟩
  case tableswitch d lo hi offs =>
    refine ⟨hs.1.1, fun o ho => ?_, hs.2⟩
    have := List.all_eq_true.mp hs.1.2 o ho
    simpa using this
  case getstatic i => exact ⟨hs.1, hs.2, hw _ (by simp [xWd])⟩
  case getfield i =>
    obtain ⟨⟨⟨⟨⟨h1, h2⟩, h3⟩, h4⟩, h5⟩, h6⟩ := hs
    exact ⟨h1, a - 1, _, _, _, by omega, xC_at (by omega), h4, h5, hw _ (by simp [xWd]), h6⟩
  case putfield i =>
    obtain ⟨⟨⟨⟨⟨⟨h1, h2⟩, h3⟩, h4⟩, h5⟩, h6⟩, h7⟩ := hs
    refine ⟨h1, a - 1, _, _, _, by omega, xC_at (by omega), h4, h5, hw _ (by simp [xWd]), h6, fun h8 => ?_⟩
    rcases h7 with h7 | h7
    · rw [h8] at h7; cases h7
    · exact h7
  case aastore =>
    obtain ⟨⟨⟨h1, h2⟩, h3⟩, h4⟩ := hs
    refine ⟨h1, a - 1, (xC T (a - 1)).2.1, (xC T (a - 1)).2.2, by omega, ?_⟩
    rw [← h4]
    exact xC_at (by omega)
  case new i =>
    rcases c with _ | c
    · simp only [Bool.and_eq_true, beq_iff_eq, decide_eq_true_eq] at hs
      obtain ⟨⟨⟨h1, h2⟩, h3⟩, h4⟩ := hs
      refine ⟨h1, a - 1, (xC T (a - 1)).1, (xC T (a - 1)).2.1, by omega, ?_, hw _ (by simp [xWd]), hw _ (by simp [xWd]), hw _ (by simp [xWd])⟩
      rw [h4]
      exact xC_at (by omega)
    · exact hthrow rfl
  case newarray t =>
    refine ⟨hs.1, ?_, hw _ (by simp [xWd])⟩
    rcases hs.2 with (h | h) | h
    · exact Or.inl h
    · exact Or.inr (Or.inl h)
    · exact Or.inr (Or.inr h)
  case anewarray i => exact ⟨hs, hw _ (by simp [xWd])⟩
  case multianewarray i d => exact ⟨hs.1, hs.2, hw _ (by simp [xWd]), hw _ (by simp [xWd])⟩
  case invokestatic i =>
    refine ⟨hs.1, ?_⟩
    have h2 := hs.2
    rcases b with _ | _ | b
    · simp only [Bool.and_eq_true, decide_eq_true_eq] at h2
      exact ⟨hw _ (by simp [xWd]), hw _ (by simp [xWd]), xar_of h2.2, hM _ h2.1, hcat rfl⟩
    · exact ⟨hw _ (by simp [xWd]), hw _ (by simp [xWd]), hw _ (by simp [xWd]), hw _ (by simp [xWd])⟩
    · exact hw _ (by simp [xWd])
  case invokespecial i =>
    refine ⟨hs.1, ?_⟩
    have h2 := hs.2
    rcases b with _ | b
    · simp only [Bool.and_eq_true, decide_eq_true_eq] at h2
      obtain ⟨⟨⟨⟨⟨h3, h4⟩, h5⟩, h6⟩, h7⟩, h8⟩ := h2
      exact ⟨hw _ (by simp [xWd]), hw _ (by simp [xWd]), h4, h5, h6, xar_of h7, hM _ h3, h8, hcat rfl⟩
    · exact ⟨hw _ (by simp [xWd]), hw _ (by simp [xWd]), hw _ (by simp [xWd])⟩
  case invokevirtual i =>
    refine ⟨hs.1, ?_⟩
    have h2 := hs.2
    rcases b with _ | _ | _ | b
    · simp only [Bool.and_eq_true, decide_eq_true_eq] at h2
      obtain ⟨⟨⟨⟨⟨⟨h3, h4⟩, h5⟩, h6⟩, h7⟩, h8⟩, h9⟩ := h2
      refine ⟨hw _ (by simp [xWd]), hw _ (by simp [xWd]), hw _ (by simp [xWd]), h4, xar_of h5, hM _ h3, h6, hcat rfl, z.toNat - 1, (xC T (z.toNat - 1)).2.1, (xC T (z.toNat - 1)).2.2, by omega, ?_⟩
      rw [← h9]
      exact xC_at h8
    all_goals exact hw _ (by simp [xWd])
  case ireturn =>
    refine ⟨hs.1, ?_⟩
    rcases hs.2 with (h | h) | h
    · exact Or.inl h
    · exact Or.inr (Or.inl h)
    · exact Or.inr (Or.inr h)
  case areturn =>
    refine ⟨hs.1, ?_⟩
    have h2 := hs.2
    split at h2
    · rename_i n h; exact Or.inl ⟨n, h⟩
    · rename_i n h; exact Or.inr ⟨n, h⟩
    · cases h2
  all_goals exact hs
/-- a method's rows, one by one -/
def xDec (c : ByteArray) : List xI → Prop
  | [] => True
  | e :: r => decode c e.1 = .ok (e.2.1, e.2.2.1) ∧ xDec c r
theorem xDec_of {c : ByteArray} : ∀ {l : List xI}, xDec c l → ∀ e ∈ l, decode c e.1 = .ok (e.2.1, e.2.2.1) := by
  intro l
  induction l with
  | nil => intro _ e he; cases he
  | cons x l ih =>
    intro h e he
    rcases List.mem_cons.mp he with he | he
    · subst he; exact h.1
    · exact ih h.2 e he
theorem xDec_app {c : ByteArray} {a b : List xI} (h1 : xDec c a) (h2 : xDec c b) : xDec c (a ++ b) := by
  induction a with
  | nil => exact h2
  | cons x l ih => exact ⟨h1.1, ih h1.2⟩
theorem xLkM {T : xTT} {nM y : Nat} {l : List xI} (hd : xDec (tbt T y) l) (hw : ∀ w ∈ l.flatMap (xWd T y), w ∈ tTg T) (hs : l.all (xSd T nM y) = true) (hM : ∀ a, a < nM → xMd T a) (hcat : ∀ e ∈ l, xInv e = true → xCat T y e.1)
    (ht : ∀ e ∈ l, xThr e = true → xLk2 T y e) : ∀ e ∈ l, xLk T y e := fun e he =>
  xLk_of (xDec_of hd e he) (fun w h => hw w (List.mem_flatMap.mpr ⟨e, he, h⟩)) (List.all_eq_true.mp hs e he) hM (hcat e he) (ht e he)
theorem xCat_nil {T : xTT} {y pc : Nat} (h1 : (tP T).2.2.2 y = []) (h2 : thh T y = []) : xCat T y pc := by
  refine ⟨fun _ => h2, fun E pc' h => ?_⟩
  rw [h1] at h
  cases h
theorem xThr_none {T : xTT} {y : Nat} {l : List xI} (h : l.all (fun e => !xThr e) = true) : ∀ e ∈ l, xThr e = true → xLk2 T y e := by
  intro e he ht
  have := List.all_eq_true.mp h e he
  rw [ht] at this
  cases this
/-- a method's table of what it catches, checked at a place -/
def xCtB (T : xTT) (pc : Nat) : List (Nat × Nat × Nat × Nat) → List (Nat × Nat) → List Nat → Bool
  | [], [], _ => true
  | h :: hs, q :: qs, pv => Nat.ble h.1 pc && Nat.blt pc h.2.1 && !(h.2.2.2 == 0) && q.2 == h.2.2.1 && decide (Cond.castable (xEx q.1) (xEx q.1) ∈ tbad T) && pv.all (fun E => decide ((xEx q.1, xEx E) ∈ tnc T)) && xCtB T pc hs qs (q.1 :: pv)
  | _, _, _ => false
def xCtW (T : xTT) (y : Nat) : List (Nat × Nat × Nat × Nat) → List (Nat × Nat) → List Cond
  | h :: hs, q :: qs => Cond.classLink (tnm T y).cls h.2.2.2 (xEx q.1) :: xCtW T y hs qs
  | _, _ => []
theorem xCtB_of {T : xTT} {y pc : Nat} : ∀ {hs : List (Nat × Nat × Nat × Nat)} {qs : List (Nat × Nat)} {pv : List Nat} {p0 : List ExceptionTableEntry}, xCtB T pc hs qs pv = true → (∀ w ∈ xCtW T y hs qs, w ∈ tTg T) → (∀ z ∈ p0, z.catchType ≠ 0 ∧ ∃ E, E ∈ pv ∧ Cond.classLink (tnm T y).cls z.catchType (xEx E) ∈ tTg T) →
    ∀ E pc', xcatch qs E = some pc' → ∃ pre x suf, p0 ++ tableOf hs = pre ++ x :: suf ∧ covers x pc = true ∧ x.catchType ≠ 0 ∧ x.handlerPc = pc' ∧
      Cond.classLink (tnm T y).cls x.catchType (xEx E) ∈ tTg T ∧ Cond.castable (xEx E) (xEx E) ∈ tbad T ∧ ∀ z ∈ pre, covers z pc = false ∨ (z.catchType ≠ 0 ∧ ∃ nm : String, Cond.classLink (tnm T y).cls z.catchType nm ∈ tTg T ∧ (xEx E, nm) ∈ tnc T) := by
  intro hs
  induction hs with
  | nil =>
    intro qs pv p0 h1 h2 h3 E pc' h4
    cases qs with
    | nil => cases h4
    | cons q qs => cases h1
  | cons h hs ih =>
    intro qs pv p0 h1 h2 h3 E pc' h4
    cases qs with
    | nil => cases h1
    | cons q qs =>
      obtain ⟨q1, q2⟩ := q
      obtain ⟨a1, a2, a3, a4⟩ := h
      unfold xCtB at h1
      simp only [Bool.and_eq_true, Bool.not_eq_true', beq_eq_false_iff_ne, beq_iff_eq, decide_eq_true_eq, List.all_eq_true] at h1
      obtain ⟨⟨⟨⟨⟨⟨g1, g2⟩, g3⟩, g4⟩, g5⟩, g6⟩, g7⟩ := h1
      unfold xcatch at h4
      split at h4
      · rename_i he
        have he := Nat.eq_of_beq_eq_true he
        dsimp only at he
        subst he
        cases h4
        refine ⟨p0, ⟨a1, a2, a3, a4⟩, tableOf hs, rfl, ?_, g3, g4.symm, h2 _ (List.mem_cons_self), g5, fun z hz => Or.inr ?_⟩
        · show (decide (a1 ≤ pc) && decide (pc < a2)) = true
          have := Nat.le_of_ble_eq_true g1
          have := Nat.le_of_ble_eq_true g2
          simp only [Bool.and_eq_true, decide_eq_true_eq]
          omega
        · obtain ⟨z1, E0, z2, z3⟩ := h3 z hz
          exact ⟨z1, _, z3, g6 E0 z2⟩
      · rename_i he
        have hp : ∀ z ∈ p0 ++ [(⟨a1, a2, a3, a4⟩ : ExceptionTableEntry)], z.catchType ≠ 0 ∧ ∃ E, E ∈ q1 :: pv ∧ Cond.classLink (tnm T y).cls z.catchType (xEx E) ∈ tTg T := by
          intro z hz
          rcases List.mem_append.mp hz with hz | hz
          · obtain ⟨z1, E0, z2, z3⟩ := h3 z hz
            exact ⟨z1, E0, List.mem_cons_of_mem _ z2, z3⟩
          · rw [List.mem_singleton] at hz
            subst hz
            exact ⟨g3, q1, List.mem_cons_self, h2 _ (List.mem_cons_self)⟩
        obtain ⟨pre, x, suf, e1, e2⟩ := ih (p0 := p0 ++ [⟨a1, a2, a3, a4⟩]) g7 (fun w hw => h2 w (List.mem_cons_of_mem _ hw)) hp E pc' h4
        refine ⟨pre, x, suf, ?_, e2⟩
        rw [← e1, List.append_assoc]
        rfl
theorem xCat_of {T : xTT} {y : Nat} {l : List xI} (h0 : (tP T).2.2.2 y ≠ []) (h1 : l.all (fun e => !xInv e || xCtB T e.1 (thh T y) ((tP T).2.2.2 y) []) = true) (h2 : ∀ w ∈ xCtW T y (thh T y) ((tP T).2.2.2 y), w ∈ tTg T) : ∀ e ∈ l, xInv e = true → xCat T y e.1 := by
  intro e he hi
  have h3 := List.all_eq_true.mp h1 e he
  rw [hi] at h3
  refine ⟨fun h => absurd h h0, fun E pc' h4 => ?_⟩
  obtain ⟨pre, x, suf, e1, e2⟩ := xCtB_of (p0 := []) h3 h2 (fun z hz => nomatch hz) E pc' h4
  exact ⟨pre, x, suf, e1, e2⟩
/-- methods that may be called, all at once -/
def xMdB (T : xTT) (a : Nat) : Bool := (plainFor (tnm T a) && ((thh T a).isEmpty || plainName (tnm T a).cls)) && decide ((tnm T a).cls ≠ "java/lang/invoke/MethodHandle" ∧ (tnm T a).cls ≠ "java/lang/invoke/VarHandle") && Nat.ble ((tP T).2.1 a) 20 && Nat.blt ((tP T).2.2.1 a) 60
def xMdW (T : xTT) (a : Nat) : List Cond := [if thh T a = [] then Cond.code (tnm T a) (tbt T a) ((tP T).2.1 a) (trt T a) else Cond.codeWith (tnm T a) (tbt T a) ((tP T).2.1 a) (trt T a) (thh T a), Cond.initialized (tnm T a).cls]
theorem xMd_of {T : xTT} {a : Nat} (h1 : xMdB T a = true) (h2 : ∀ w ∈ xMdW T a, w ∈ tTg T) : xMd T a := by
  unfold xMdB at h1
  simp only [Bool.and_eq_true, Bool.or_eq_true, List.isEmpty_iff, decide_eq_true_eq] at h1
  refine ⟨h1.1.1.1, h1.1.1.2, ?_, h2 _ (List.mem_cons_of_mem _ List.mem_cons_self), Nat.le_of_ble_eq_true h1.1.2, Nat.le_of_ble_eq_true h1.2⟩
  have h3 := h2 _ (List.mem_cons_self)
  split
  · rename_i h; rw [if_pos h] at h3; exact h3
  · rename_i h; rw [if_neg h] at h3; exact h3
