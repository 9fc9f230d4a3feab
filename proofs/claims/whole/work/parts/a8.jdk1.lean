/-! ===== FOUR MEMBERS OF THE JDK: WORDS, AND WHAT STANDS IN FRONT OF A CALL ===== -/
abbrev jS : String := "java/lang/String"
abbrev jL : String := "java/lang/StringLatin1"
abbrev jA : String := "java/util/Arrays"
abbrev jP : String := "jdk/internal/util/Preconditions"
def jyLen : MethodName := ⟨jS, "length", "()I"⟩
def jyChr : MethodName := ⟨jS, "charAt", "(I)C"⟩
def jyIx1 : MethodName := ⟨jS, "indexOf", "(I)I"⟩
def jyIx2 : MethodName := ⟨jS, "indexOf", "(II)I"⟩
def jyCod : MethodName := ⟨jS, "coder", "()B"⟩
def jyLat : MethodName := ⟨jS, "isLatin1", "()Z"⟩
def jyChk : MethodName := ⟨jS, "checkIndex", "(II)V"⟩
def jyLCh : MethodName := ⟨jL, "charAt", "([BI)C"⟩
def jyCan : MethodName := ⟨jL, "canEncode", "(I)Z"⟩
def jyLIx : MethodName := ⟨jL, "indexOf", "([BIII)I"⟩
def jyLIc : MethodName := ⟨jL, "indexOfChar", "([BIII)I"⟩
def jyPre : MethodName := ⟨jP, "checkIndex", "(IILjava/util/function/BiFunction;)I"⟩
def jyCpy : MethodName := ⟨jA, "copyOf", "([II)[I"⟩
def jyClo : MethodName := ⟨"[I", "clone", "()Ljava/lang/Object;"⟩
def jyObC : MethodName := ⟨"java/lang/Object", "clone", "()Ljava/lang/Object;"⟩
abbrev jcLen : ByteArray := prog_27_method_54_code
abbrev jcChr : ByteArray := prog_27_method_56_code
abbrev jcIx1 : ByteArray := prog_27_method_79_code
abbrev jcIx2 : ByteArray := prog_27_method_80_code
abbrev jcCod : ByteArray := prog_27_method_152_code
abbrev jcLat : ByteArray := prog_27_method_154_code
abbrev jcChk : ByteArray := prog_27_method_155_code
abbrev jcLCh : ByteArray := prog_28_method_2_code
abbrev jcCan : ByteArray := prog_28_method_4_code
abbrev jcLIx : ByteArray := prog_28_method_22_code
abbrev jcLIc : ByteArray := prog_28_method_23_code
abbrev jcCpy : ByteArray := prog_35_method_123_code
abbrev jcPre : ByteArray := prog_37_method_11_code
def jWords : List Cond := [
  .fieldLink jS 38 jS "COMPACT_STRINGS" "Z", .fieldLink jS 15 jS "coder" "B", .fieldLink jS 9 jS "value" "[B",
  .methodLink jS 335 jyCod, .instanceMethod jyCod, .selects jS jyCod jyCod, .initialized jS, .code jyCod jcCod 1 (some .byte),
  .methodLink jS 492 jyLat, .instanceMethod jyLat, .selects jS jyLat jyLat, .code jyLat jcLat 1 (some .boolean),
  .methodLink jS 495 jyLCh, .static jyLCh, .initialized jL, .code jyLCh jcLCh 2 (some .char),
  .methodLink jL 9 jyChk, .static jyChk, .code jyChk jcChk 2 none,
  .fieldLink jS 1053 jP "SIOOBE_FORMATTER" "Ljava/util/function/BiFunction;", .methodLink jS 1059 jyPre, .static jyPre, .initialized jP, .code jyPre jcPre 3 (some .int),
  .instanceMethod jyLen, .selects jS jyLen jyLen, .code jyLen jcLen 1 (some .int),
  .instanceMethod jyChr, .selects jS jyChr jyChr, .code jyChr jcChr 2 (some .char),
  .instanceMethod jyIx1, .selects jS jyIx1 jyIx1, .code jyIx1 jcIx1 2 (some .int),
  .methodLink jS 633 jyIx2, .instanceMethod jyIx2, .selects jS jyIx2 jyIx2, .code jyIx2 jcIx2 3 (some .int),
  .methodLink jS 505 jyLen,
  .methodLink jS 637 jyLIx, .static jyLIx, .code jyLIx jcLIx 4 (some .int),
  .methodLink jL 88 jyCan, .static jyCan, .code jyCan jcCan 1 (some .boolean),
  .methodLink jL 92 Lib.Math.max.name, .static Lib.Math.max.name, .initialized "java/lang/Math", .code Lib.Math.max.name Lib.Math.max.code 2 (some .int),
  .methodLink jL 38 Lib.Math.min.name, .static Lib.Math.min.name, .code Lib.Math.min.name Lib.Math.min.code 2 (some .int),
  .methodLink jL 95 jyLIc, .static jyLIc, .code jyLIc jcLIc 6 (some .int),
  .static jyCpy, .initialized jA, .code jyCpy jcCpy 3 (some (.array .int)),
  .methodLink jA 316 jyClo, .sameMethod "[I" "java/lang/Object" "clone" "()Ljava/lang/Object;", .native jyObC, .instanceMethod jyObC, .selects "[I" jyClo jyObC, .classLink jA 317 "[I", .arrayClass .int,
  .methodLink jA 304 Lib.Math.min.name, .methodLink jA 150 arraycopyName, .native arraycopyName, .static arraycopyName, .initialized "java/lang/System"]
set_option maxRecDepth 100000 in
theorem jW0 : jWords.all (fun w => decide (w ∈ lw_tbl) && goodWord w) = true := by decide +kernel
theorem jW {w : Cond} (h : w ∈ jWords) : w ∈ xTg := by
  have := List.all_eq_true.mp jW0 w h
  rw [Bool.and_eq_true] at this
  exact List.mem_filter.mpr ⟨of_decide_eq_true this.1, this.2⟩
def jw (y : MethodName) (b : ByteArray) (ml : Nat) (rt : Option FieldType) : List Cond := Cond.code y b ml rt :: xTg
theorem jgood {y : MethodName} {b : ByteArray} {ml : Nat} {rt : Option FieldType} (h : Cond.code y b ml rt ∈ xTg) : GoodIn xTg (jw y b ml rt) := by
  have hg : ∀ w ∈ xTg, goodWord w = true := fun w hw => (List.mem_filter.mp hw).2
  intro w hw
  rcases List.mem_cons.mp hw with e | e
  · rw [e]; exact ⟨h, good_of_word (hg _ h)⟩
  · exact ⟨e, good_of_word (hg _ e)⟩
/-- the ground alone -/
def jPc (G : xG) (vs : List Value) : Array Value → State → Prop := va_Pc vs (fun U => xGr xTab G U U.heap)
theorem jPc.blind {G : xG} {vs : List Value} : FrameBlind (jPc G vs) := by
  intro a U g mk h
  obtain ⟨h1, h2⟩ := h
  exact ⟨h1, h2.move (U := U.calling g mk a) (State.WarmedH.refl U) (Nat.le_refl _) (fun _ _ _ => rfl)⟩
theorem jPc.at {G : xG} {vs : List Value} {s : State} {H : Heap} {locs : List Loc} (hGr : xGr xTab G s s.heap) (hS : va_S (xA G) s.heap H locs) : ∀ U : State, U.heap = H → s.WarmedH U.vm → jPc G vs vs.toArray U := by
  intro U hU hW
  refine ⟨rfl, ?_⟩
  show xGr xTab G U U.heap
  rw [hU]
  exact hGr.move hW hS.1 hS.2.1
/-- an answer that is a number -/
def jQi (_ : xG) (r : Int32) : Array Value → State → Outcome → State → Prop := fun _ st oc t => oc = .returned (some (.int r)) ∧ t.heap = st.heap
def jQv (_ : xG) : Array Value → State → Outcome → State → Prop := fun _ st oc t => oc = .returned none ∧ t.heap = st.heap
theorem jr {a b : Int32} (h : a = b) : Outcome.returned (some (Value.int a)) = .returned (some (.int b)) := by rw [h]
theorem jnil {f : Loc → Prop} : ∀ q : Loc, q ∈ ([] : List Loc) → f q := fun _ h => absurd h List.not_mem_nil
abbrev jRm (f lo : Nat) : Room := { frames := f, cells := 0, slots := 0, locals := lo }
section JCALL
variable {p : Program} {l : Launch} {e : Env} {R : Room} {s : State} {m : MethodId} {args : Array Value} {below : List Frame} {meth : Method} {c : Code} {H : Heap} {locs : List Loc} {cells slots : Nat} {Q : State → Prop} {pc : Nat} {ls : Array Slot} {rest st0 : List Value} {a : Array Value} {G : xG}
theorem j_call {r : Int32} (hr : va_Run p l e R s m args below meth c H locs cells slots 0 0 (F0 m pc ls st0) rest (jQi G r a) (fun _ => False)) (kk : W p l e R s m args below meth c H locs cells slots Q (F0 m (pc + 3) ls (.int r :: rest))) : W p l e R s m args below meth c H locs cells slots Q (F0 m pc ls st0) := by
  intro T hT X
  obtain ⟨v, st₀, t, T', L, h0, X', hL, e1, -, ⟨hv, hh⟩, st⟩ := hr T hT X
  cases hv
  obtain ⟨t2, a1, b1⟩ := kk T' (by rw [e1, hh, h0]) (Stand.forget X' (fun q h => (hL q h).elim))
  exact ⟨t2, st t2 a1, b1⟩
theorem j_callv (hr : va_Run p l e R s m args below meth c H locs cells slots 0 0 (F0 m pc ls st0) rest (jQv G a) (fun _ => False)) (kk : W p l e R s m args below meth c H locs cells slots Q (F0 m (pc + 3) ls rest)) : W p l e R s m args below meth c H locs cells slots Q (F0 m pc ls st0) := by
  intro T hT X
  obtain ⟨v, st₀, t, T', L, h0, X', hL, e1, -, ⟨hv, hh⟩, st⟩ := hr T hT X
  cases hv
  obtain ⟨t2, a1, b1⟩ := kk T' (by rw [e1, hh, h0]) (Stand.forget X' (fun q h => (hL q h).elim))
  exact ⟨t2, st t2 a1, b1⟩
end JCALL
section JDK1
variable {l : Launch} {G : xG} {i : Nat}
theorem jd_cod0 : decode jcCod 0 = .ok (.getstatic 38, 3) := by decide +kernel
theorem jd_cod3 : decode jcCod 3 = .ok (.ifCond .eq 10, 3) := by decide +kernel
theorem jd_cod6 : decode jcCod 6 = .ok (.aload_n 0, 1) := by decide +kernel
theorem jd_cod7 : decode jcCod 7 = .ok (.getfield 15, 3) := by decide +kernel
theorem jd_cod10 : decode jcCod 10 = .ok (.goto 4, 3) := by decide +kernel
theorem jd_cod14 : decode jcCod 14 = .ok (.ireturn, 1) := by decide +kernel
set_option maxHeartbeats 4000000 in
set_option maxRecDepth 100000 in
/-- coder() -/
theorem j_cod (hi : i < 67) : Met l jyCod (jw jyCod jcCod 1 (some .byte)) (jRm 0 0) (jPc G [.ref (G.2.2.2.2.2.1 i)]) (jQi G 0) 0 0 (fun _ => False) := by
  refine Met.ofW (cc := jcCod) (maxL := 1) (ret := some .byte) (by decide) rfl ?_
  intro p e s m args below meth c s₁ B hml hv
  obtain ⟨rfl, hGr⟩ := hv
  have hx := B.exec
  have hb := B.bytes
  have hr := B.returns
  have hts0 := atoms_spec (ws := jw jyCod jcCod 1 (some .byte)) B.pre
  have hts : ∀ w ∈ jWords, w.before _ s = true := fun w h => hts0 w (List.mem_cons_of_mem _ (jW h))
  have hown : s.vm.findClass jS = some m.cls := findClass_of_methodNamed B.named
  have hlocks := B.notSynchronized
  have hS : va_S (xA G) s.heap s.heap [] := va_S.rf
  have hl := lv_entry ([.ref (G.2.2.2.2.2.1 i)]) (n := 1) (Nat.le_of_ble_eq_true rfl)
  rw [lg_entry_eq]
  generalize (lg_sl ([.ref (G.2.2.2.2.2.1 i)]) ++ List.replicate (1 - (lg_sl ([.ref (G.2.2.2.2.2.1 i)])).length) Slot.unset).toArray = ls at hl ⊢
  have hl : lv_has ls 1 [(0, .ref (G.2.2.2.2.2.1 i))] := hl
  have hstr := hGr.2.2.2.1 i hi
  refine va_gets hx hb hGr.2.2.2.2.2.1.1 hS hown (hts _ (List.mem_of_getElem? (i := 0) rfl)) (fun _ h => h) jd_cod0 ?_
  refine lv_if_eq hx hb jd_cod3 (tgt := 13) rfl (fun h => absurd h (by decide)) (fun _ => ?_)
  refine lv_aload_n hx hb jd_cod6 rfl (lv_at hl 0 rfl) ?_
  refine vk_getf hx hb hstr.2.1 hS hown (hts _ (List.mem_of_getElem? (i := 1) rfl)) (fun _ h => h) jd_cod7 ?_
  refine lv_goto hx hb jd_cod10 (tgt := 14) rfl ?_
  exact W.zret (v := 0) hx hb hr rfl (fun t ht hW => ⟨jr (rfl), ht⟩) jnil jd_cod14 hlocks
end JDK1
