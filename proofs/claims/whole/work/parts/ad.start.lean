/-! ===== THE START OF THE LAW: its ground ===== -/
/-- a list that stands in another, in its order -/
def st_sub : List Cond → List Cond → Bool
  | [], _ => true
  | _ :: _, [] => false
  | a :: u, b :: v => if decide (a = b) then st_sub u v else st_sub (a :: u) v
theorem st_sub_mem : ∀ (v u : List Cond), st_sub u v = true → ∀ w ∈ u, w ∈ v := by
  intro v
  induction v with
  | nil =>
    intro u h w hw
    cases u with
    | nil => cases hw
    | cons a u => cases h
  | cons b v ih =>
    intro u h w hw
    cases u with
    | nil => cases hw
    | cons a u =>
      unfold st_sub at h
      split at h
      · rename_i hd
        have e := of_decide_eq_true hd
        rcases List.mem_cons.mp hw with rfl | hw
        · rw [e]; exact List.mem_cons_self
        · exact List.mem_cons_of_mem _ (ih u h w hw)
      · exact List.mem_cons_of_mem _ (ih (a :: u) h w hw)
def nW : List Cond := flatC (Cond.and given_1 narrow_1)
def st_tm (i : Nat) : Term := .string (xslL.getD i ("", 0, "", 0)).1 (xslL.getD i ("", 0, "", 0)).2.1
/-- what the Statement says of text i -/
def st_w (i : Nat) : List Cond :=
  Cond.exactly (st_tm i) "java/lang/String" :: Cond.eq (.field (st_tm i) "java/lang/String" "coder" "B") (.int 0) :: Cond.arrayOf (.field (st_tm i) "java/lang/String" "value" "[B") .byte ::
    Cond.eq (.length (.field (st_tm i) "java/lang/String" "value" "[B")) (.int (Int32.ofNat (xlenL.getD i 0))) ::
    (List.range (xlenL.getD i 0)).map (fun j => Cond.eq (.elem (.field (st_tm i) "java/lang/String" "value" "[B") (.int (Int32.ofNat j))) (.int ((xbytL.getD i []).getD j 0)))
theorem st_words : st_sub ((List.range 67).flatMap st_w) nW = true := by decide +kernel
theorem st_word {i : Nat} (hi : i < 67) {w : Cond} (hw : w ∈ st_w i) : w ∈ nW := st_sub_mem _ _ st_words w (List.mem_flatMap.mpr ⟨i, List.mem_range.mpr hi, hw⟩)
theorem st_lens : (List.range 67).all (fun i => decide (xlenL.getD i 0 < 2 ^ 31)) = true := by decide +kernel
def st_tW : List Cond := [.arrayClass .int, .arrayClass .long, .arrayClass .boolean, .arrayOver (.object "EarRooms$State"), .arrayOver (.array .int), .laysStatic "EarRooms$Sound" "BACK" "[I", .initialized "EarRooms$Sound",
  .laysStatic "java/lang/String" "COMPACT_STRINGS" "Z", .initialized "java/lang/String", .laysStatic "jdk/internal/util/Preconditions" "SIOOBE_FORMATTER" "Ljava/util/function/BiFunction;", .initialized "jdk/internal/util/Preconditions",
  .laysStatic Bundle.tN "UNASSIGNED_STACK" Bundle.steD, .laysStatic Bundle.tN "SUPPRESSED_SENTINEL" Bundle.listD, .initialized Bundle.tN, jcl]
theorem st_tW0 : st_tW.all (fun w => decide (w ∈ lw_tbl)) = true := by decide +kernel
theorem st_tW1 {w : Cond} (h : w ∈ st_tW) : w ∈ lw_tbl := of_decide_eq_true (List.all_eq_true.mp st_tW0 w h)
theorem st_sl0 : xslL.all (fun q => decide (q.2.2.2 < 67) && decide (st_tm q.2.2.2 = .string q.1 q.2.1) && decide (Cond.stringRef q.1 q.2.1 q.2.2.1 ∈ lw_tbl)) = true := by decide +kernel
theorem st_bad0 : xbadL.all (fun w => decide (w ∈ lw_tbl)) = true := by decide +kernel
theorem st_bad1 : ∀ w ∈ xbadL, ((∃ a b, w = .castable a b) ∨ ∃ x, w = .declares x) := by
  intro w hw
  have h : xbadL.all (fun w => match w with | .castable _ _ => true | .declares _ => true | _ => false) = true := by decide +kernel
  have h1 := List.all_eq_true.mp h w hw
  cases w <;> first | exact Or.inl ⟨_, _, rfl⟩ | exact Or.inr ⟨_, rfl⟩ | cases h1
theorem st_nc0 : xncL.all (fun q => decide (Cond.not (.castable q.1 q.2) ∈ nW)) = true := by decide +kernel
def st_nar : List Cond := [Cond.arrayOf (.static "EarRooms$Sound" "BACK" "[I") .int, Cond.eq (.length (.static "EarRooms$Sound" "BACK" "[I")) (.int (Int32.ofNat 5)), Cond.eq (.static "java/lang/String" "COMPACT_STRINGS" "Z") (.int 1),
  Cond.isRef (.static "jdk/internal/util/Preconditions" "SIOOBE_FORMATTER" "Ljava/util/function/BiFunction;"), Cond.isRef (.static Bundle.tN "UNASSIGNED_STACK" Bundle.steD), Cond.isRef (.static Bundle.tN "SUPPRESSED_SENTINEL" Bundle.listD)]
theorem st_nar0 : st_nar.all (fun w => decide (w ∈ nW)) = true := by decide +kernel
theorem st_nar1 {w : Cond} (h : w ∈ st_nar) : w ∈ nW := of_decide_eq_true (List.all_eq_true.mp st_nar0 w h)
theorem st_back0 : (List.range 5).all (fun j => decide (Cond.eq (.elem (.static "EarRooms$Sound" "BACK" "[I") (.int (Int32.ofNat j))) (.int (Int32.ofInt (xback5 j))) ∈ nW)) = true := by decide +kernel
theorem st_cl0 : xcl.all (fun q => decide (Cond.instantiable q.1 q.2.2 ∈ lw_tbl)) = true := by decide +kernel
theorem st_law1 : tnm xTab2 381 = ⟨"EarRoomsLaw", "law", "([I)Z"⟩ := by decide +kernel
theorem st_law2 : tbt xTab2 381 = code := rfl
theorem st_law3 : trt xTab2 381 = ret := rfl
theorem st_law4 : thh xTab2 381 = [] := by decide +kernel
theorem st_law5 : (tP xTab2).2.1 381 = 7 := by decide +kernel
theorem st_law6 : (tP xTab2).2.2.1 381 = 16 := by decide +kernel
