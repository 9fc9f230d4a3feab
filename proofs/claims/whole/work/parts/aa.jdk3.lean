/-! ===== MEMBERS OF THE JDK: INDEXOF ===== -/
section JDK3
variable {l : Launch} {G : xG} {i : Nat}
/-- where a letter is, from place k on, n places more -/
def jIx (i : Nat) (x : Int32) : Nat → Nat → Int32
  | 0, _ => -1
  | n + 1, k => if jByt i k &&& 255 = x then nI k else jIx i x n (k + 1)
def jR (i : Nat) (x : Int32) : Int32 := if x < 0 then -1 else if 255 < x then -1 else jIx i x (jLen i) 0
theorem getD_memI {l : List Int32} {k : Nat} (h : k < l.length) : l.getD k 0 ∈ l := by
  rw [List.getD_eq_getElem?_getD, List.getElem?_eq_getElem h]
  exact List.getElem_mem _
theorem jByt_8 (hi : i < 67) {k : Nat} (hk : k < jLen i) : (jByt i k).toInt8.toInt32 = jByt i k := by
  have h : ∀ i, i < 67 → (xlenL.getD i 0 = (xbytL.getD i []).length ∧ ∀ b ∈ xbytL.getD i [], b.toInt8.toInt32 = b) := by decide +kernel
  obtain ⟨h1, h2⟩ := h i hi
  have hk : k < xlenL.getD i 0 := hk
  exact h2 _ (getD_memI (by rw [← h1]; exact hk))
theorem jLen_pos (hi : i < 67) : 0 < jLen i := by
  have h : ∀ i, i < 67 → 0 < jLen i := by decide +kernel
  exact h i hi
theorem jd_lic0 : decode jcLIc 0 = .ok (.iload_n 1, 1) := by decide +kernel
theorem jd_lic1 : decode jcLIc 1 = .ok (.i2b, 1) := by decide +kernel
theorem jd_lic2 : decode jcLIc 2 = .ok (.istore 4, 2) := by decide +kernel
theorem jd_lic4 : decode jcLIc 4 = .ok (.iload_n 2, 1) := by decide +kernel
theorem jd_lic5 : decode jcLIc 5 = .ok (.istore 5, 2) := by decide +kernel
theorem jd_lic7 : decode jcLIc 7 = .ok (.iload 5, 2) := by decide +kernel
theorem jd_lic9 : decode jcLIc 9 = .ok (.iload_n 3, 1) := by decide +kernel
theorem jd_lic10 : decode jcLIc 10 = .ok (.if_icmp .ge 21, 3) := by decide +kernel
theorem jd_lic13 : decode jcLIc 13 = .ok (.aload_n 0, 1) := by decide +kernel
theorem jd_lic14 : decode jcLIc 14 = .ok (.iload 5, 2) := by decide +kernel
theorem jd_lic16 : decode jcLIc 16 = .ok (.baload, 1) := by decide +kernel
theorem jd_lic17 : decode jcLIc 17 = .ok (.iload 4, 2) := by decide +kernel
theorem jd_lic19 : decode jcLIc 19 = .ok (.if_icmp .ne 6, 3) := by decide +kernel
theorem jd_lic22 : decode jcLIc 22 = .ok (.iload 5, 2) := by decide +kernel
theorem jd_lic24 : decode jcLIc 24 = .ok (.ireturn, 1) := by decide +kernel
theorem jd_lic25 : decode jcLIc 25 = .ok (.iinc 5 1, 3) := by decide +kernel
theorem jd_lic28 : decode jcLIc 28 = .ok (.goto (-21), 3) := by decide +kernel
theorem jd_lic31 : decode jcLIc 31 = .ok (.iconst (-1), 1) := by decide +kernel
theorem jd_lic32 : decode jcLIc 32 = .ok (.ireturn, 1) := by decide +kernel
theorem jd_lix0 : decode jcLIx 0 = .ok (.iload_n 1, 1) := by decide +kernel
theorem jd_lix1 : decode jcLIx 1 = .ok (.invokestatic 88, 3) := by decide +kernel
theorem jd_lix4 : decode jcLIx 4 = .ok (.ifCond .ne 5, 3) := by decide +kernel
theorem jd_lix7 : decode jcLIx 7 = .ok (.iconst (-1), 1) := by decide +kernel
theorem jd_lix8 : decode jcLIx 8 = .ok (.ireturn, 1) := by decide +kernel
theorem jd_lix9 : decode jcLIx 9 = .ok (.iload_n 2, 1) := by decide +kernel
theorem jd_lix10 : decode jcLIx 10 = .ok (.iconst 0, 1) := by decide +kernel
theorem jd_lix11 : decode jcLIx 11 = .ok (.invokestatic 92, 3) := by decide +kernel
theorem jd_lix14 : decode jcLIx 14 = .ok (.istore_n 2, 1) := by decide +kernel
theorem jd_lix15 : decode jcLIx 15 = .ok (.iload_n 3, 1) := by decide +kernel
theorem jd_lix16 : decode jcLIx 16 = .ok (.aload_n 0, 1) := by decide +kernel
theorem jd_lix17 : decode jcLIx 17 = .ok (.arraylength, 1) := by decide +kernel
theorem jd_lix18 : decode jcLIx 18 = .ok (.invokestatic 38, 3) := by decide +kernel
theorem jd_lix21 : decode jcLIx 21 = .ok (.istore_n 3, 1) := by decide +kernel
theorem jd_lix22 : decode jcLIx 22 = .ok (.iload_n 2, 1) := by decide +kernel
theorem jd_lix23 : decode jcLIx 23 = .ok (.iload_n 3, 1) := by decide +kernel
theorem jd_lix24 : decode jcLIx 24 = .ok (.if_icmp .lt 5, 3) := by decide +kernel
theorem jd_lix27 : decode jcLIx 27 = .ok (.iconst (-1), 1) := by decide +kernel
theorem jd_lix28 : decode jcLIx 28 = .ok (.ireturn, 1) := by decide +kernel
theorem jd_lix29 : decode jcLIx 29 = .ok (.aload_n 0, 1) := by decide +kernel
theorem jd_lix30 : decode jcLIx 30 = .ok (.iload_n 1, 1) := by decide +kernel
theorem jd_lix31 : decode jcLIx 31 = .ok (.iload_n 2, 1) := by decide +kernel
theorem jd_lix32 : decode jcLIx 32 = .ok (.iload_n 3, 1) := by decide +kernel
theorem jd_lix33 : decode jcLIx 33 = .ok (.invokestatic 95, 3) := by decide +kernel
theorem jd_lix36 : decode jcLIx 36 = .ok (.ireturn, 1) := by decide +kernel
theorem jd_ix20 : decode jcIx2 0 = .ok (.aload_n 0, 1) := by decide +kernel
theorem jd_ix21 : decode jcIx2 1 = .ok (.invokevirtual 492, 3) := by decide +kernel
theorem jd_ix24 : decode jcIx2 4 = .ok (.ifCond .eq 19, 3) := by decide +kernel
theorem jd_ix27 : decode jcIx2 7 = .ok (.aload_n 0, 1) := by decide +kernel
theorem jd_ix28 : decode jcIx2 8 = .ok (.getfield 9, 3) := by decide +kernel
theorem jd_ix211 : decode jcIx2 11 = .ok (.iload_n 1, 1) := by decide +kernel
theorem jd_ix212 : decode jcIx2 12 = .ok (.iload_n 2, 1) := by decide +kernel
theorem jd_ix213 : decode jcIx2 13 = .ok (.aload_n 0, 1) := by decide +kernel
theorem jd_ix214 : decode jcIx2 14 = .ok (.invokevirtual 505, 3) := by decide +kernel
theorem jd_ix217 : decode jcIx2 17 = .ok (.invokestatic 637, 3) := by decide +kernel
theorem jd_ix220 : decode jcIx2 20 = .ok (.goto 16, 3) := by decide +kernel
theorem jd_ix223 : decode jcIx2 23 = .ok (.aload_n 0, 1) := by decide +kernel
theorem jd_ix224 : decode jcIx2 24 = .ok (.getfield 9, 3) := by decide +kernel
theorem jd_ix227 : decode jcIx2 27 = .ok (.iload_n 1, 1) := by decide +kernel
theorem jd_ix228 : decode jcIx2 28 = .ok (.iload_n 2, 1) := by decide +kernel
theorem jd_ix229 : decode jcIx2 29 = .ok (.aload_n 0, 1) := by decide +kernel
theorem jd_ix230 : decode jcIx2 30 = .ok (.invokevirtual 505, 3) := by decide +kernel
theorem jd_ix233 : decode jcIx2 33 = .ok (.invokestatic 640, 3) := by decide +kernel
theorem jd_ix236 : decode jcIx2 36 = .ok (.ireturn, 1) := by decide +kernel
theorem jd_ix10 : decode jcIx1 0 = .ok (.aload_n 0, 1) := by decide +kernel
theorem jd_ix11 : decode jcIx1 1 = .ok (.iload_n 1, 1) := by decide +kernel
theorem jd_ix12 : decode jcIx1 2 = .ok (.iconst 0, 1) := by decide +kernel
theorem jd_ix13 : decode jcIx1 3 = .ok (.invokevirtual 633, 3) := by decide +kernel
theorem jd_ix16 : decode jcIx1 6 = .ok (.ireturn, 1) := by decide +kernel
set_option maxHeartbeats 4000000 in
set_option maxRecDepth 100000 in
theorem j_lic {z : Nat} (hi : i < 67) (hz8 : z < 256) : Met l jyLIc (jw jyLIc jcLIc 6 (some .int)) (jRm 0 0) (jPc G [.ref (G.2.2.2.2.2.2 i), .int (nI z), .int 0, .int (nI (jLen i))]) (jQi G (jIx i (nI z) (jLen i) 0)) 0 0 (fun _ => False) := by
  refine Met.ofW (cc := jcLIc) (maxL := 6) (ret := some .int) (by decide) rfl ?_
  intro p e s m args below meth c s₁ B hml hv
  obtain ⟨rfl, hGr⟩ := hv
  have hx := B.exec
  have hb := B.bytes
  have hr := B.returns
  have hts0 := atoms_spec (ws := jw jyLIc jcLIc 6 (some .int)) B.pre
  have htA : ∀ w ∈ xTg, w.before _ s = true := fun w h => hts0 w (List.mem_cons_of_mem _ h)
  have hts : ∀ w ∈ jWords, w.before _ s = true := fun w h => htA w (jW h)
  have hown : s.vm.findClass jL = some m.cls := findClass_of_methodNamed B.named
  have hlocks := B.notSynchronized
  have hS : va_S (xA G) s.heap s.heap [] := va_S.rf
  have hl := lv_entry ([.ref (G.2.2.2.2.2.2 i), .int (nI z), .int 0, .int (nI (jLen i))]) (n := 6) (Nat.le_of_ble_eq_true rfl)
  rw [lg_entry_eq]
  generalize (lg_sl ([.ref (G.2.2.2.2.2.2 i), .int (nI z), .int 0, .int (nI (jLen i))]) ++ List.replicate (6 - (lg_sl ([.ref (G.2.2.2.2.2.2 i), .int (nI z), .int 0, .int (nI (jLen i))])).length) Slot.unset).toArray = ls at hl ⊢
  have hl : lv_has ls 6 [(0, .ref (G.2.2.2.2.2.2 i)), (1, .int (nI z)), (2, .int 0), (3, .int (nI (jLen i)))] := hl
  have hstr := hGr.2.2.2.1 i hi
  have hlt := jLen_lt hi
  have loop : ∀ (n k : Nat), n + k = jLen i → jIx i (nI z) n k = jIx i (nI z) (jLen i) 0 → ∀ ls : Array Slot, lv_has ls 6 [(5, .int (nI k)), (4, .int (nI z).toInt8.toInt32), (0, .ref (G.2.2.2.2.2.2 i)), (1, .int (nI z)), (2, .int 0), (3, .int (nI (jLen i)))] → W p l e (headSpec (jw jyLIc jcLIc 6 (some .int)) (jRm 0 0)).room s m #[.ref (G.2.2.2.2.2.2 i), .int (nI z), .int 0, .int (nI (jLen i))] below meth c s.heap [] 0 0 (MQ below (jQi G (jIx i (nI z) (jLen i) 0)) #[.ref (G.2.2.2.2.2.2 i), .int (nI z), .int 0, .int (nI (jLen i))] s 0 0 (fun _ => False)) (F0 m 7 ls []) := by
    intro n
    induction n with
    | zero =>
      intro k hk hr0 ls hl
      refine lv_iload hx hb jd_lic7 (lv_at hl 0 rfl) ?_
      refine lv_iload_n hx hb jd_lic9 rfl (lv_at hl 5 rfl) ?_
      refine lv_icmp_ge hx hb jd_lic10 (tgt := 31) rfl (fun _ => ?_) (fun h => absurd (nI_le (a := jLen i) (b := k) (by omega) (by omega)) h)
      refine lv_iconst (v := -1) hx hb jd_lic31 (by decide) ?_
      exact W.iret (v := -1) hx hb hr (fun t ht hW => ⟨jr (hr0), ht⟩) jnil jd_lic32 hlocks
    | succ n ih =>
      intro k hk hr0 ls hl
      refine lv_iload hx hb jd_lic7 (lv_at hl 0 rfl) ?_
      refine lv_iload_n hx hb jd_lic9 rfl (lv_at hl 5 rfl) ?_
      refine lv_icmp_ge hx hb jd_lic10 (tgt := 31) rfl (fun h => absurd h (nI_ge (by omega) (by omega))) (fun _ => ?_)
      refine lv_aload_n hx hb jd_lic13 rfl (lv_at hl 2 rfl) ?_
      refine lv_iload hx hb jd_lic14 (lv_at hl 0 rfl) ?_
      refine va_tb hx hb hstr.2.2.2 hS (vp_in_nI (show k < jLen i by omega) hlt) (v := .int (jByt i k)) (by rw [nI_clamp (by omega)]) jd_lic16 ?_
      refine lv_iload hx hb jd_lic17 (lv_at hl 1 rfl) ?_
      have hbb := sc_eq (jByt_8 hi (k := k) (by omega)) hz8
      refine lv_icmp_ne hx hb jd_lic19 (tgt := 25) rfl (fun h => ?_) (fun h => ?_)
      · have hne : ¬ jByt i k &&& 255 = nI z := fun q => h (hbb.mpr q)
        refine lv_iinc (k := 0) hx hb jd_lic25 hl rfl (v := nI (k + 1)) (by rw [nI_succ]; rfl) (by decide) rfl (fun ls' hl' => ?_)
        refine lv_goto hx hb jd_lic28 (tgt := 7) rfl ?_
        refine ih (k + 1) (by omega) ?_ ls' hl'
        rw [← hr0]
        show _ = if jByt i k &&& 255 = nI z then nI k else jIx i (nI z) n (k + 1)
        rw [if_neg hne]
      · have heq : jByt i k &&& 255 = nI z := hbb.mp h
        refine lv_iload hx hb jd_lic22 (lv_at hl 0 rfl) ?_
        refine W.iret (v := nI k) hx hb hr (fun t ht hW => ⟨jr ?_, ht⟩) jnil jd_lic24 hlocks
        rw [← hr0]
        show _ = if jByt i k &&& 255 = nI z then nI k else jIx i (nI z) n (k + 1)
        rw [if_pos heq]
  refine lv_iload_n hx hb jd_lic0 rfl (lv_at hl 1 rfl) ?_
  refine lv_i2b (v := (nI z).toInt8.toInt32) hx hb jd_lic1 rfl ?_
  refine lv_istore hx hb jd_lic2 hl (by decide) rfl (fun ls hl => ?_)
  refine lv_iload_n hx hb jd_lic4 rfl (lv_at hl 3 rfl) ?_
  refine lv_istore hx hb jd_lic5 hl (by decide) rfl (fun ls hl => ?_)
  exact loop (jLen i) 0 (by omega) rfl ls hl
set_option maxHeartbeats 4000000 in
set_option maxRecDepth 100000 in
theorem j_lix {x : Int32} (hi : i < 67) : Met l jyLIx (jw jyLIx jcLIx 4 (some .int)) (jRm 1 25) (jPc G [.ref (G.2.2.2.2.2.2 i), .int x, .int 0, .int (nI (jLen i))]) (jQi G (jR i x)) 0 0 (fun _ => False) := by
  refine Met.ofW (cc := jcLIx) (maxL := 4) (ret := some .int) (by decide) rfl ?_
  intro p e s m args below meth c s₁ B hml hv
  obtain ⟨rfl, hGr⟩ := hv
  have hx := B.exec
  have hb := B.bytes
  have hr := B.returns
  have hts0 := atoms_spec (ws := jw jyLIx jcLIx 4 (some .int)) B.pre
  have htA : ∀ w ∈ xTg, w.before _ s = true := fun w h => hts0 w (List.mem_cons_of_mem _ h)
  have hts : ∀ w ∈ jWords, w.before _ s = true := fun w h => htA w (jW h)
  have hown : s.vm.findClass jL = some m.cls := findClass_of_methodNamed B.named
  have hlocks := B.notSynchronized
  have hS : va_S (xA G) s.heap s.heap [] := va_S.rf
  have hl := lv_entry ([.ref (G.2.2.2.2.2.2 i), .int x, .int 0, .int (nI (jLen i))]) (n := 4) (Nat.le_of_ble_eq_true rfl)
  rw [lg_entry_eq]
  generalize (lg_sl ([.ref (G.2.2.2.2.2.2 i), .int x, .int 0, .int (nI (jLen i))]) ++ List.replicate (4 - (lg_sl ([.ref (G.2.2.2.2.2.2 i), .int x, .int 0, .int (nI (jLen i))])).length) Slot.unset).toArray = ls at hl ⊢
  have hl : lv_has ls 4 [(0, .ref (G.2.2.2.2.2.2 i)), (1, .int x), (2, .int 0), (3, .int (nI (jLen i)))] := hl
  have hstr := hGr.2.2.2.1 i hi
  have hlt := jLen_lt hi
  refine lv_iload_n hx hb jd_lix0 rfl (lv_at hl 1 rfl) ?_
  refine j_call (va_runS (As := [.int x]) (rest := []) ⟨hx, hb, hml, hown, htA⟩ (j_can) ⟨callB_of 1 htA (jgood (jW (List.mem_of_getElem? (i := 43) rfl))) rfl rfl rfl (hts _ (List.mem_of_getElem? (i := 14) rfl)) (hts _ (List.mem_of_getElem? (i := 41) rfl)) (by decide +kernel) ⟨Nat.le_of_ble_eq_true rfl, Nat.le_of_ble_eq_true rfl⟩, (hts _ (List.mem_of_getElem? (i := 42) rfl))⟩ ⟨jPc.blind, jPc.at hGr hS⟩ rfl rfl hl.1 rfl (lv_room (Nat.le_of_ble_eq_true rfl)) jd_lix1 ⟨Nat.zero_le _, Nat.zero_le _⟩) ?_
  refine lv_topi (fun r hr1 => ?_)
  refine lv_if_ne hx hb jd_lix4 (tgt := 9) rfl (fun h => ?_) (fun h => ?_)
  · have h0 : ¬ x < 0 := fun q => h (by rw [hr1, if_pos q])
    have h1 : ¬ 255 < x := fun q => h (by rw [hr1, if_neg h0, if_pos q])
    obtain ⟨z, hz1, rfl⟩ := nI_of h0
    have h256 : z < 256 := by
      rcases Nat.lt_or_ge z 256 with q | q
      · exact q
      · exact absurd (nI_lt (a := 255) (b := z) (by omega) hz1) h1
    have eR : jR i (nI z) = jIx i (nI z) (jLen i) 0 := by unfold jR; rw [if_neg h0, if_neg h1]
    refine lv_iload_n hx hb jd_lix9 rfl (lv_at hl 2 rfl) ?_
    refine lv_iconst (v := 0) hx hb jd_lix10 (by decide) ?_
    refine va_mmax hx hb (hml.trans hl.1.symm) hown (hts _ (List.mem_of_getElem? (i := 44) rfl)) (hts _ (List.mem_of_getElem? (i := 45) rfl)) (hts _ (List.mem_of_getElem? (i := 46) rfl)) (hts _ (List.mem_of_getElem? (i := 47) rfl)) (Nat.le_of_ble_eq_true rfl) (Nat.le_of_ble_eq_true rfl) (Nat.zero_le _) (Nat.zero_le _) jd_lix11 ?_
    refine lv_topi (fun v1 e1 => ?_)
    have e1 : v1 = 0 := by rw [e1]; rfl
    subst e1
    refine lv_istore_n hx hb jd_lix14 rfl hl (by decide) rfl (fun ls hl => ?_)
    refine lv_iload_n hx hb jd_lix15 rfl (lv_at hl 3 rfl) ?_
    refine lv_aload_n hx hb jd_lix16 rfl (lv_at hl 1 rfl) ?_
    refine va_tlen hx hb hstr.2.2.2 hS (v := nI (jLen i)) rfl jd_lix17 ?_
    refine va_mmin hx hb (hml.trans hl.1.symm) hown (hts _ (List.mem_of_getElem? (i := 48) rfl)) (hts _ (List.mem_of_getElem? (i := 49) rfl)) (hts _ (List.mem_of_getElem? (i := 46) rfl)) (hts _ (List.mem_of_getElem? (i := 50) rfl)) (Nat.le_of_ble_eq_true rfl) (Nat.le_of_ble_eq_true rfl) (Nat.zero_le _) (Nat.zero_le _) jd_lix18 ?_
    refine lv_topi (fun v1 e1 => ?_)
    have e1 : v1 = nI (jLen i) := by rw [e1]; exact ite_self _
    subst e1
    refine lv_istore_n hx hb jd_lix21 rfl hl (by decide) rfl (fun ls hl => ?_)
    refine lv_iload_n hx hb jd_lix22 rfl (lv_at hl 1 rfl) ?_
    refine lv_iload_n hx hb jd_lix23 rfl (lv_at hl 0 rfl) ?_
    refine lv_icmp_lt hx hb jd_lix24 (tgt := 29) rfl (fun _ => ?_) (fun q => absurd (nI_lt (a := 0) (b := jLen i) (jLen_pos hi) hlt) q)
    refine lv_aload_n hx hb jd_lix29 rfl (lv_at hl 2 rfl) ?_
    refine lv_iload_n hx hb jd_lix30 rfl (lv_at hl 3 rfl) ?_
    refine lv_iload_n hx hb jd_lix31 rfl (lv_at hl 1 rfl) ?_
    refine lv_iload_n hx hb jd_lix32 rfl (lv_at hl 0 rfl) ?_
    refine j_call (va_runS (As := [.ref (G.2.2.2.2.2.2 i), .int (nI z), .int 0, .int (nI (jLen i))]) (rest := []) ⟨hx, hb, hml, hown, htA⟩ (j_lic hi h256) ⟨callB_of 4 htA (jgood (jW (List.mem_of_getElem? (i := 53) rfl))) rfl rfl rfl (hts _ (List.mem_of_getElem? (i := 14) rfl)) (hts _ (List.mem_of_getElem? (i := 51) rfl)) (by decide +kernel) ⟨Nat.le_of_ble_eq_true rfl, Nat.le_of_ble_eq_true rfl⟩, (hts _ (List.mem_of_getElem? (i := 52) rfl))⟩ ⟨jPc.blind, jPc.at hGr hS⟩ rfl rfl hl.1 rfl (lv_room (Nat.le_of_ble_eq_true rfl)) jd_lix33 ⟨Nat.zero_le _, Nat.zero_le _⟩) ?_
    exact W.iret (v := jIx i (nI z) (jLen i) 0) hx hb hr (fun t ht hW => ⟨jr (eR.symm), ht⟩) jnil jd_lix36 hlocks
  · have h : r = 0 := h
    rw [hr1] at h
    have eR : jR i x = -1 := by
      unfold jR
      by_cases h0 : x < 0
      · rw [if_pos h0]
      · rw [if_neg h0] at h ⊢
        by_cases h1 : 255 < x
        · rw [if_pos h1]
        · rw [if_neg h1] at h
          exact absurd h (by decide)
    refine lv_iconst (v := -1) hx hb jd_lix7 (by decide) ?_
    exact W.iret (v := -1) hx hb hr (fun t ht hW => ⟨jr (eR.symm), ht⟩) jnil jd_lix8 hlocks
set_option maxHeartbeats 4000000 in
set_option maxRecDepth 100000 in
theorem j_ix2 {x : Int32} (hi : i < 67) : Met l jyIx2 (jw jyIx2 jcIx2 3 (some .int)) (jRm 2 48) (jPc G [.ref (G.2.2.2.2.2.1 i), .int x, .int 0]) (jQi G (jR i x)) 0 0 (fun _ => False) := by
  refine Met.ofW (cc := jcIx2) (maxL := 3) (ret := some .int) (by decide) rfl ?_
  intro p e s m args below meth c s₁ B hml hv
  obtain ⟨rfl, hGr⟩ := hv
  have hx := B.exec
  have hb := B.bytes
  have hr := B.returns
  have hts0 := atoms_spec (ws := jw jyIx2 jcIx2 3 (some .int)) B.pre
  have htA : ∀ w ∈ xTg, w.before _ s = true := fun w h => hts0 w (List.mem_cons_of_mem _ h)
  have hts : ∀ w ∈ jWords, w.before _ s = true := fun w h => htA w (jW h)
  have hown : s.vm.findClass jS = some m.cls := findClass_of_methodNamed B.named
  have hlocks := B.notSynchronized
  have hS : va_S (xA G) s.heap s.heap [] := va_S.rf
  have hl := lv_entry ([.ref (G.2.2.2.2.2.1 i), .int x, .int 0]) (n := 3) (Nat.le_of_ble_eq_true rfl)
  rw [lg_entry_eq]
  generalize (lg_sl ([.ref (G.2.2.2.2.2.1 i), .int x, .int 0]) ++ List.replicate (3 - (lg_sl ([.ref (G.2.2.2.2.2.1 i), .int x, .int 0])).length) Slot.unset).toArray = ls at hl ⊢
  have hl : lv_has ls 3 [(0, .ref (G.2.2.2.2.2.1 i)), (1, .int x), (2, .int 0)] := hl
  have hstr := hGr.2.2.2.1 i hi
  refine lv_aload_n hx hb jd_ix20 rfl (lv_at hl 0 rfl) ?_
  refine j_call (va_runV (C := jS) (As := []) (rest := []) ⟨hx, hb, hml, hown, htA⟩ (j_lat hi) ⟨callB_of 0 htA (jgood (jW (List.mem_of_getElem? (i := 11) rfl))) rfl rfl rfl (hts _ (List.mem_of_getElem? (i := 6) rfl)) (hts _ (List.mem_of_getElem? (i := 8) rfl)) (by decide +kernel) ⟨Nat.le_of_ble_eq_true rfl, Nat.le_of_ble_eq_true rfl⟩, (hts _ (List.mem_of_getElem? (i := 9) rfl)), (hts _ (List.mem_of_getElem? (i := 10) rfl))⟩ ⟨jPc.blind, va_Orecv hstr.1 hS, jPc.at hGr hS⟩ rfl rfl hl.1 rfl (lv_room (Nat.le_of_ble_eq_true rfl)) jd_ix21 ⟨Nat.zero_le _, Nat.zero_le _⟩) ?_
  refine lv_if_eq hx hb jd_ix24 (tgt := 23) rfl (fun h => absurd h (by decide)) (fun _ => ?_)
  refine lv_aload_n hx hb jd_ix27 rfl (lv_at hl 0 rfl) ?_
  refine vk_getf hx hb hstr.2.2.1 hS hown (hts _ (List.mem_of_getElem? (i := 2) rfl)) (fun _ h => h) jd_ix28 ?_
  refine lv_iload_n hx hb jd_ix211 rfl (lv_at hl 1 rfl) ?_
  refine lv_iload_n hx hb jd_ix212 rfl (lv_at hl 2 rfl) ?_
  refine lv_aload_n hx hb jd_ix213 rfl (lv_at hl 0 rfl) ?_
  refine j_call (va_runV (C := jS) (As := []) (rest := [.int 0, .int x, .ref (G.2.2.2.2.2.2 i)]) ⟨hx, hb, hml, hown, htA⟩ (j_len hi) ⟨callB_of 0 htA (jgood (jW (List.mem_of_getElem? (i := 26) rfl))) rfl rfl rfl (hts _ (List.mem_of_getElem? (i := 6) rfl)) (hts _ (List.mem_of_getElem? (i := 37) rfl)) (by decide +kernel) ⟨Nat.le_of_ble_eq_true rfl, Nat.le_of_ble_eq_true rfl⟩, (hts _ (List.mem_of_getElem? (i := 24) rfl)), (hts _ (List.mem_of_getElem? (i := 25) rfl))⟩ ⟨jPc.blind, va_Orecv hstr.1 hS, jPc.at hGr hS⟩ rfl rfl hl.1 rfl (lv_room (Nat.le_of_ble_eq_true rfl)) jd_ix214 ⟨Nat.zero_le _, Nat.zero_le _⟩) ?_
  refine j_call (va_runS (As := [.ref (G.2.2.2.2.2.2 i), .int x, .int 0, .int (nI (jLen i))]) (rest := []) ⟨hx, hb, hml, hown, htA⟩ (j_lix hi) ⟨callB_of 4 htA (jgood (jW (List.mem_of_getElem? (i := 40) rfl))) rfl rfl rfl (hts _ (List.mem_of_getElem? (i := 14) rfl)) (hts _ (List.mem_of_getElem? (i := 38) rfl)) (by decide +kernel) ⟨Nat.le_of_ble_eq_true rfl, Nat.le_of_ble_eq_true rfl⟩, (hts _ (List.mem_of_getElem? (i := 39) rfl))⟩ ⟨jPc.blind, jPc.at hGr hS⟩ rfl rfl hl.1 rfl (lv_room (Nat.le_of_ble_eq_true rfl)) jd_ix217 ⟨Nat.zero_le _, Nat.zero_le _⟩) ?_
  refine lv_goto hx hb jd_ix220 (tgt := 36) rfl ?_
  exact W.iret (v := jR i x) hx hb hr (fun t ht hW => ⟨jr (rfl), ht⟩) jnil jd_ix236 hlocks
set_option maxHeartbeats 4000000 in
set_option maxRecDepth 100000 in
theorem j_ix1 {x : Int32} (hi : i < 67) : Met l jyIx1 (jw jyIx1 jcIx1 2 (some .int)) (jRm 3 70) (jPc G [.ref (G.2.2.2.2.2.1 i), .int x]) (jQi G (jR i x)) 0 0 (fun _ => False) := by
  refine Met.ofW (cc := jcIx1) (maxL := 2) (ret := some .int) (by decide) rfl ?_
  intro p e s m args below meth c s₁ B hml hv
  obtain ⟨rfl, hGr⟩ := hv
  have hx := B.exec
  have hb := B.bytes
  have hr := B.returns
  have hts0 := atoms_spec (ws := jw jyIx1 jcIx1 2 (some .int)) B.pre
  have htA : ∀ w ∈ xTg, w.before _ s = true := fun w h => hts0 w (List.mem_cons_of_mem _ h)
  have hts : ∀ w ∈ jWords, w.before _ s = true := fun w h => htA w (jW h)
  have hown : s.vm.findClass jS = some m.cls := findClass_of_methodNamed B.named
  have hlocks := B.notSynchronized
  have hS : va_S (xA G) s.heap s.heap [] := va_S.rf
  have hl := lv_entry ([.ref (G.2.2.2.2.2.1 i), .int x]) (n := 2) (Nat.le_of_ble_eq_true rfl)
  rw [lg_entry_eq]
  generalize (lg_sl ([.ref (G.2.2.2.2.2.1 i), .int x]) ++ List.replicate (2 - (lg_sl ([.ref (G.2.2.2.2.2.1 i), .int x])).length) Slot.unset).toArray = ls at hl ⊢
  have hl : lv_has ls 2 [(0, .ref (G.2.2.2.2.2.1 i)), (1, .int x)] := hl
  have hstr := hGr.2.2.2.1 i hi
  refine lv_aload_n hx hb jd_ix10 rfl (lv_at hl 0 rfl) ?_
  refine lv_iload_n hx hb jd_ix11 rfl (lv_at hl 1 rfl) ?_
  refine lv_iconst (v := 0) hx hb jd_ix12 (by decide) ?_
  refine j_call (va_runV (C := jS) (As := [.int x, .int 0]) (rest := []) ⟨hx, hb, hml, hown, htA⟩ (j_ix2 hi) ⟨callB_of 2 htA (jgood (jW (List.mem_of_getElem? (i := 36) rfl))) rfl rfl rfl (hts _ (List.mem_of_getElem? (i := 6) rfl)) (hts _ (List.mem_of_getElem? (i := 33) rfl)) (by decide +kernel) ⟨Nat.le_of_ble_eq_true rfl, Nat.le_of_ble_eq_true rfl⟩, (hts _ (List.mem_of_getElem? (i := 34) rfl)), (hts _ (List.mem_of_getElem? (i := 35) rfl))⟩ ⟨jPc.blind, va_Orecv hstr.1 hS, jPc.at hGr hS⟩ rfl rfl hl.1 rfl (lv_room (Nat.le_of_ble_eq_true rfl)) jd_ix13 ⟨Nat.zero_le _, Nat.zero_le _⟩) ?_
  exact W.iret (v := jR i x) hx hb hr (fun t ht hW => ⟨jr (rfl), ht⟩) jnil jd_ix16 hlocks
end JDK3
