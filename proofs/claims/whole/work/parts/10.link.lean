/-! ===== THE TABLE OF A CLAIM, WHAT IT IS LINKED TO, AND THE GROUND ===== -/
abbrev xTT : Type := xP × ((Nat → MethodName) × (Nat → ByteArray) × (Nat → Option FieldType) × (Nat → List (Nat × Nat × Nat × Nat))) × (List vw_C × List Cond) × (Nat × List Nat × List (List Int32) × List (String × Nat × String × Nat)) × (List Cond × List (String × String))
abbrev tP (T : xTT) : xP := T.1
abbrev tnm (T : xTT) : Nat → MethodName := T.2.1.1
abbrev tbt (T : xTT) : Nat → ByteArray := T.2.1.2.1
abbrev trt (T : xTT) : Nat → Option FieldType := T.2.1.2.2.1
abbrev thh (T : xTT) : Nat → List (Nat × Nat × Nat × Nat) := T.2.1.2.2.2
abbrev tcl (T : xTT) : List vw_C := T.2.2.1.1
abbrev tTg (T : xTT) : List Cond := T.2.2.1.2
abbrev tnS (T : xTT) : Nat := T.2.2.2.1.1
abbrev tlen (T : xTT) : List Nat := T.2.2.2.1.2.1
abbrev tbyt (T : xTT) : List (List Int32) := T.2.2.2.1.2.2.1
abbrev tsl (T : xTT) : List (String × Nat × String × Nat) := T.2.2.2.1.2.2.2
abbrev tbad (T : xTT) : List Cond := T.2.2.2.2.1
abbrev tnc (T : xTT) : List (String × String) := T.2.2.2.2.2
/-- what a sort of wall gives back -/
def xback5 (j : Nat) : Int := if j = 1 then 2 else if j = 2 then 5 else if j = 3 then 8 else if j = 4 then 9 else 0
abbrev tS (T : xTT) : Nat := 3 + tnS T
def tK0 (T : xTT) (L : Nat) : Nat → Nat × Nat := fun a => if a = 0 then (0, 0) else if a = 1 then (21, L) else if a = 2 then (21, 5) else (26, (tlen T).getD (a - 3) 0)
def tV0 (T : xTT) (xs : Nat → Int32) : xF := fun a i => if a = 0 then 0 else if a = 1 then (xs i).toInt else if a = 2 then xback5 i else (((tbyt T).getD (a - 3) []).getD i 0 &&& 255).toInt
def tad0 (G : xG) : Nat → Nat := fun a => if a = 1 then G.2.2.2.1.1 else if a = 2 then G.2.2.2.2.1 else G.2.2.2.2.2.1 (a - 3)
abbrev xA (G : xG) : Nat → Prop := fun q => G.2.2.1 ≤ q
/-- the JVM's heap holds what M says, over the claim's ground -/
abbrev xRelT (T : xTT) (G : xG) (ad : Nat → Nat) (M : xM) (H : Heap) : Prop := xRel (tcl T) G (tS T) (tK0 T G.2.2.2.1.2.1) (tV0 T G.2.2.2.1.2.2) (tad0 G) ad M H
theorem t_low (T : xTT) (L : Nat) : xlowOK (tS T) (tK0 T L) := by
  refine ⟨by show 0 < 3 + tnS T; omega, fun a _ => ?_⟩
  unfold tK0
  repeat' split
  · exact Or.inl rfl
  · exact Or.inr (Or.inl rfl)
  · exact Or.inr (Or.inl rfl)
  · exact Or.inr (Or.inr rfl)
/-- a text among the constants -/
def xStr1 (T : xTT) (G : xG) (i : Nat) (s : State) (H : Heap) : Prop := va_O "java/lang/String" (G.2.2.2.2.2.1 i) (xA G) s H ∧ va_OF "java/lang/String" "coder" "B" (.int 0) (G.2.2.2.2.2.1 i) (xA G) s H ∧ va_OF "java/lang/String" "value" "[B" (.ref (G.2.2.2.2.2.2 i)) (G.2.2.2.2.2.1 i) (xA G) s H ∧ va_T .byte (G.2.2.2.2.2.2 i) ((tlen T).getD i 0) (fun j => .int (((tbyt T).getD i []).getD j 0)) (xA G) s H
/-- the ground at a state: its tables and the cells ahead of the first call -/
def xGr (T : xTT) (G : xG) (s : State) (H : Heap) : Prop :=
  va_K G.1 (tcl T) (xtys G) s ∧ (va_X G.2.2.2.1.1 G.2.2.2.1.2.1 G.2.2.2.1.2.2 s H ∧ G.2.2.2.1.1 < H.size ∧ ¬ xA G G.2.2.2.1.1 ∧ G.2.2.2.1.2.1 < 2147483648) ∧
  (va_Z "EarRooms$Sound" "BACK" "[I" (.ref G.2.2.2.2.1) (xA G) s H ∧ va_T .int G.2.2.2.2.1 5 (fun j => .int (Int32.ofInt (xback5 j))) (xA G) s H) ∧
  (∀ i, i < tnS T → xStr1 T G i s H) ∧ (∀ q ∈ tsl T, q.2.2.2 < tnS T ∧ vk_R q.1 q.2.1 q.2.2.1 (G.2.2.2.2.2.1 q.2.2.2) s) ∧
  (va_Z "java/lang/String" "COMPACT_STRINGS" "Z" (.int 1) (xA G) s H ∧ va_Zq "jdk/internal/util/Preconditions" "SIOOBE_FORMATTER" "Ljava/util/function/BiFunction;" (xA G) s H) ∧
  (vx_Zq Bundle.tN "UNASSIGNED_STACK" Bundle.steD (xA G) s H ∧ vx_Zq Bundle.tN "SUPPRESSED_SENTINEL" Bundle.listD (xA G) s H) ∧
  (va_AO "EarRooms$State" s ∧ va_AOA .int s) ∧ (∀ w ∈ tbad T, ((∃ a b, w = .castable a b) ∨ ∃ x, w = .declares x) ∧ va_Nw w s) ∧ ∀ q ∈ tnc T, va_Nc q.1 q.2 s
theorem xGr.move {T : xTT} {G : xG} {s U : State} {H H1 : Heap} (h : xGr T G s H) (hW : s.WarmedH U.vm) (hz : H.size ≤ H1.size) (hq : ∀ q : Nat, q < H.size → ¬ xA G q → H1[q]? = H[q]?) : xGr T G U H1 := by
  obtain ⟨g1, ⟨g2, g3, g4, g40⟩, ⟨g5, g6⟩, g7, g8, ⟨g9, g90⟩, ⟨g10, g11⟩, ⟨g12, g13⟩, g14, g15⟩ := h
  have ha := hW.alike
  refine ⟨va_K.moved ha g1, ⟨(g2.moved ha).kept (hq _ g3 g4), Nat.lt_of_lt_of_le g3 hz, g4, g40⟩, ⟨(g5.moved ha).kept hq, (g6.moved ha).kept hq⟩, fun i hi => ⟨((g7 i hi).1.moved ha).kept hq, ((g7 i hi).2.1.moved ha).kept hq, ((g7 i hi).2.2.1.moved ha).kept hq, ((g7 i hi).2.2.2.moved ha).kept hq⟩, fun q hm => ⟨(g8 q hm).1, (g8 q hm).2.warm hW⟩, ⟨(g9.moved ha).kept hq, (g90.moved ha).kept hq⟩, ⟨(g10.moved ha).kept hq, (g11.moved ha).kept hq⟩, ⟨g12.moved ha, g13.moved ha⟩, fun w hw => ?_, fun q hm => (g15 q hm).moved ha⟩
  obtain ⟨h1, h2⟩ := g14 w hw
  refine ⟨h1, ?_⟩
  rcases h1 with ⟨a, b, e⟩ | ⟨x, e⟩
  · subst e; exact va_Nw.warmC hW h2
  · subst e; exact va_Nw.warmD hW h2
def oString_length : MethodName := ⟨"java/lang/String", "length", "()I"⟩
def oString_charAt : MethodName := ⟨"java/lang/String", "charAt", "(I)C"⟩
def oString_indexOf : MethodName := ⟨"java/lang/String", "indexOf", "(I)I"⟩
def oArrays_copyOf : MethodName := ⟨"java/util/Arrays", "copyOf", "([II)[I"⟩
def xEx (E : Nat) : String := if E = 0 then "java/lang/IllegalArgumentException" else if E = 1 then "java/lang/IllegalStateException" else if E = 2 then "java/lang/IndexOutOfBoundsException" else if E = 3 then "java/lang/UnsupportedOperationException" else "java/util/NoSuchElementException"
def xsup (E : Nat) : List String := ["java/lang/RuntimeException", "java/lang/Exception"]
/-- a method that may be called -/
def xMd (T : xTT) (y : Nat) : Prop := (plainFor (tnm T y) = true ∧ (thh T y = [] ∨ plainName (tnm T y).cls = true)) ∧ ((tnm T y).cls ≠ "java/lang/invoke/MethodHandle" ∧ (tnm T y).cls ≠ "java/lang/invoke/VarHandle") ∧
  (if thh T y = [] then Cond.code (tnm T y) (tbt T y) ((tP T).2.1 y) (trt T y) ∈ tTg T else Cond.codeWith (tnm T y) (tbt T y) ((tP T).2.1 y) (trt T y) (thh T y) ∈ tTg T) ∧
  Cond.initialized (tnm T y).cls ∈ tTg T ∧ (tP T).2.1 y ≤ 20 ∧ (tP T).2.2.1 y < 60
def xar (y : MethodName) (n : Nat) : Prop := (parseMethodDescriptor y.desc).map (fun d => d.parameters.length) = some n
/-- what a method's table does behind a call at pc -/
def xCat (T : xTT) (y pc : Nat) : Prop := ((tP T).2.2.2 y = [] → thh T y = []) ∧ ∀ E pc', xcatch ((tP T).2.2.2 y) E = some pc' → ∃ pre x suf, tableOf (thh T y) = pre ++ x :: suf ∧ covers x pc = true ∧ x.catchType ≠ 0 ∧ x.handlerPc = pc' ∧
  Cond.classLink (tnm T y).cls x.catchType (xEx E) ∈ tTg T ∧ Cond.castable (xEx E) (xEx E) ∈ tbad T ∧ ∀ z ∈ pre, covers z pc = false ∨ (z.catchType ≠ 0 ∧ ∃ nm : String, Cond.classLink (tnm T y).cls z.catchType nm ∈ tTg T ∧ (xEx E, nm) ∈ tnc T)
/-- what a row's instruction is linked to -/
def xLk2 (T : xTT) (y : Nat) (e : xI) : Prop := match e with
  | (pc, ins, len, a, b, c, z) => match ins with
    | .iconst n => len = 1 ∧ r32 n
    | .bipush n => len = 2 ∧ (Int8.ofInt n).toInt32 = Int32.ofInt n ∧ r32 n
    | .sipush n => len = 3 ∧ (Int16.ofInt n).toInt32 = Int32.ofInt n ∧ r32 n
    | .ldc i => len = 2 ∧ ((a = 0 ∧ r32 z ∧ Cond.constant (tnm T y).cls i (Int32.ofInt z) ∈ tTg T) ∨ (a = 1 ∧ ∃ k tx, b = 3 + k ∧ ((tnm T y).cls, i, tx, k) ∈ tsl T))
    | .ldc_w i => len = 3 ∧ ((a = 0 ∧ r32 z ∧ Cond.constant (tnm T y).cls i (Int32.ofInt z) ∈ tTg T) ∨ (a = 1 ∧ ∃ k tx, b = 3 + k ∧ ((tnm T y).cls, i, tx, k) ∈ tsl T))
    | .ldc2_w i => len = 3 ∧ r64 z ∧ Cond.constantLong (tnm T y).cls i (Int64.ofInt z) ∈ tTg T
    | .lconst _ | .iload_n _ | .lload_n _ | .aload_n _ | .istore_n _ | .lstore_n _ | .astore_n _ => len = 1
    | .iload _ | .lload _ | .aload _ | .istore _ | .lstore _ | .astore _ => len = 2
    | .iinc _ _ => len = 3
    | .iadd | .isub | .imul | .iand | .ior | .ixor | .ishl | .ishr | .iushr | .idiv | .irem | .ineg | .ladd | .lmul | .land | .lor | .ldiv | .lshl | .lcmp | .i2l | .l2i | .i2c | .pop | .dup | .dup2 => len = 1
    | .goto o => len = 3 ∧ (pc : Int) + o = (a : Int)
    | .ifCond _ o => len = 3 ∧ (pc : Int) + o = (a : Int)
    | .if_icmp _ o => len = 3 ∧ (pc : Int) + o = (a : Int)
    | .tableswitch d lo hi offs => 0 ≤ (pc : Int) + d ∧ (∀ o ∈ offs.toList, 0 ≤ (pc : Int) + o) ∧ hi = lo + offs.size - 1
    | .getstatic i => len = 3 ∧ b = 2 ∧ Cond.fieldLink (tnm T y).cls i "EarRooms$Sound" "BACK" "[I" ∈ tTg T
    | .getfield i => len = 3 ∧ ∃ cn C F N, a = cn + 1 ∧ (tcl T)[cn]? = some (C, F, N) ∧ b < N ∧ (F b).1 = C ∧ Cond.fieldLink (tnm T y).cls i C (F b).2.1 (F b).2.2.1 ∈ tTg T ∧ c = (if xfk (F b).2.2.1 = 3 then 0 else xfk (F b).2.2.1)
    | .putfield i => len = 3 ∧ ∃ cn C F N, a = cn + 1 ∧ (tcl T)[cn]? = some (C, F, N) ∧ b < N ∧ (F b).1 = C ∧ Cond.fieldLink (tnm T y).cls i C (F b).2.1 (F b).2.2.1 ∈ tTg T ∧ c = xfk (F b).2.2.1 ∧ ((F b).2.2.2 = true → (tnm T y).name = "<init>" ∧ (tnm T y).cls = C)
    | .iaload | .iastore | .laload | .lastore | .baload | .bastore | .aaload | .arraylength => len = 1
    | .aastore => len = 1 ∧ ∃ cn F N, a = cn + 1 ∧ (tcl T)[cn]? = some ("EarRooms$State", F, N)
    | .new i => match c with
      | 0 => len = 3 ∧ ∃ cn C F, a = cn + 1 ∧ (tcl T)[cn]? = some (C, F, b) ∧ Cond.classLink (tnm T y).cls i C ∈ tTg T ∧ Cond.instantiable C b ∈ tTg T ∧ Cond.initialized C ∈ tTg T
      | _ => ∃ ic, decode (tbt T y) (pc + 3) = .ok (.dup, 1) ∧ decode (tbt T y) (pc + 4) = .ok (.invokespecial ic, 3) ∧ decode (tbt T y) (pc + 7) = .ok (.athrow, 1) ∧ a < 5 ∧ len = 3 ∧ thh T y = [] ∧
          Bundle.fit (xEx a) = true ∧ (∀ w ∈ Cond.classLink (tnm T y).cls i (xEx a) :: Cond.initialized (xEx a) :: vx_at0 (tnm T y).cls ic (xEx a) (xsup a), (w ∈ tTg T ∨ w ∈ tbad T) ∧ vx_ot w = true)
    | .newarray t => len = 2 ∧ ((a = 20 ∧ t = .int) ∨ (a = 22 ∧ t = .long) ∨ (a = 23 ∧ t = .boolean)) ∧ Cond.arrayClass (newarray.typeOf t) ∈ tTg T
    | .anewarray i => len = 3 ∧ Cond.classLink (tnm T y).cls i "EarRooms$State" ∈ tTg T
    | .multianewarray i d => d = 2 ∧ len = 4 ∧ Cond.classLink (tnm T y).cls i "[[I" ∈ tTg T ∧ Cond.arrayClass .int ∈ tTg T
    | .invokestatic i => len = 3 ∧ match b with
      | 0 => Cond.methodLink (tnm T y).cls i (tnm T a) ∈ tTg T ∧ Cond.static (tnm T a) ∈ tTg T ∧ xar (tnm T a) c ∧ xMd T a ∧ xCat T y pc
      | 1 => Cond.methodLink (tnm T y).cls i arraycopyName ∈ tTg T ∧ Cond.native arraycopyName ∈ tTg T ∧ Cond.static arraycopyName ∈ tTg T ∧ Cond.initialized "java/lang/System" ∈ tTg T
      | _ => Cond.methodLink (tnm T y).cls i oArrays_copyOf ∈ tTg T
    | .invokespecial i => len = 3 ∧ match b with
      | 0 => Cond.methodLink (tnm T y).cls i (tnm T a) ∈ tTg T ∧ Cond.instanceMethod (tnm T a) ∈ tTg T ∧ (tnm T a).name = "<init>" ∧ trt T a = none ∧ 1 ≤ c ∧ xar (tnm T a) (c - 1) ∧ xMd T a ∧ thh T a = [] ∧ xCat T y pc
      | _ => Cond.methodLink (tnm T y).cls i objectInit ∈ tTg T ∧ Cond.instanceMethod objectInit ∈ tTg T ∧ Cond.code objectInit ⟨#[0xb1]⟩ 1 none ∈ tTg T
    | .invokevirtual i => len = 3 ∧ match b with
      | 0 => Cond.methodLink (tnm T y).cls i (tnm T a) ∈ tTg T ∧ Cond.instanceMethod (tnm T a) ∈ tTg T ∧ Cond.selects (tnm T a).cls (tnm T a) (tnm T a) ∈ tTg T ∧ 1 ≤ c ∧ xar (tnm T a) (c - 1) ∧ xMd T a ∧ thh T a = [] ∧ xCat T y pc ∧ ∃ (cn : Nat) (F : u_T) (N : Nat), z = ((cn : Nat) : Int) + 1 ∧ (tcl T)[cn]? = some ((tnm T a).cls, F, N)
      | 1 => Cond.methodLink (tnm T y).cls i oString_length ∈ tTg T
      | 2 => Cond.methodLink (tnm T y).cls i oString_charAt ∈ tTg T
      | _ => Cond.methodLink (tnm T y).cls i oString_indexOf ∈ tTg T
    | .ireturn => len = 1 ∧ ((a = 3 ∧ trt T y = some .boolean) ∨ (a = 2 ∧ trt T y = some .char) ∨ (a = 0 ∧ trt T y = some .int))
    | .lreturn => len = 1 ∧ trt T y = some .long
    | .areturn => len = 1 ∧ ((∃ n, trt T y = some (.object n)) ∨ ∃ t, trt T y = some (.array t))
    | .return_ => len = 1 ∧ trt T y = none
    | _ => False
def xLk (T : xTT) (y : Nat) (e : xI) : Prop := decode (tbt T y) e.1 = .ok (e.2.1, e.2.2.1) ∧ xLk2 T y e
/-- a claim's table is as it must be -/
def xOK (T : xTT) : Prop := xClOK (tcl T) (tTg T) ∧ (∀ y e, e ∈ (tP T).1 y → xLk T y e) ∧ (∀ w ∈ tTg T, goodWord w = true) ∧
  (∀ i, i < tnS T → (tlen T).getD i 0 = ((tbyt T).getD i []).length ∧ ((tbyt T).getD i []).length < 2147483648)
theorem xfind_mem {pc : Nat} {l : List xI} {e : xI} (h : xfind pc l = some e) : e ∈ l ∧ e.1 = pc := by
  induction l with
  | nil => cases h
  | cons x l ih =>
    unfold xfind at h
    split at h
    · rename_i hb
      cases h
      exact ⟨List.mem_cons_self, Nat.eq_of_beq_eq_true hb⟩
    · exact ⟨List.mem_cons_of_mem _ (ih h).1, (ih h).2⟩
