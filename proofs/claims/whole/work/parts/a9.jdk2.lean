/-! ===== MEMBERS OF THE JDK: LENGTH, CHARAT ===== -/
section JDK2
variable {l : Launch} {G : xG} {i : Nat}
abbrev jLen (i : Nat) : Nat := (tlen xTab).getD i 0
abbrev jByt (i k : Nat) : Int32 := ((tbyt xTab).getD i []).getD k 0
theorem jLen_lt (hi : i < 67) : jLen i < 2 ^ 31 := by
  have h : ∀ i, i < 67 → jLen i < 2 ^ 31 := by decide +kernel
  exact h i hi
theorem jd_lat0 : decode jcLat 0 = .ok (.getstatic 38, 3) := by decide +kernel
theorem jd_lat3 : decode jcLat 3 = .ok (.ifCond .eq 14, 3) := by decide +kernel
theorem jd_lat6 : decode jcLat 6 = .ok (.aload_n 0, 1) := by decide +kernel
theorem jd_lat7 : decode jcLat 7 = .ok (.getfield 15, 3) := by decide +kernel
theorem jd_lat10 : decode jcLat 10 = .ok (.ifCond .ne 7, 3) := by decide +kernel
theorem jd_lat13 : decode jcLat 13 = .ok (.iconst 1, 1) := by decide +kernel
theorem jd_lat14 : decode jcLat 14 = .ok (.goto 4, 3) := by decide +kernel
theorem jd_lat17 : decode jcLat 17 = .ok (.iconst 0, 1) := by decide +kernel
theorem jd_lat18 : decode jcLat 18 = .ok (.ireturn, 1) := by decide +kernel
theorem jd_len0 : decode jcLen 0 = .ok (.aload_n 0, 1) := by decide +kernel
theorem jd_len1 : decode jcLen 1 = .ok (.getfield 9, 3) := by decide +kernel
theorem jd_len4 : decode jcLen 4 = .ok (.arraylength, 1) := by decide +kernel
theorem jd_len5 : decode jcLen 5 = .ok (.aload_n 0, 1) := by decide +kernel
theorem jd_len6 : decode jcLen 6 = .ok (.invokevirtual 335, 3) := by decide +kernel
theorem jd_len9 : decode jcLen 9 = .ok (.ishr, 1) := by decide +kernel
theorem jd_len10 : decode jcLen 10 = .ok (.ireturn, 1) := by decide +kernel
theorem jd_can0 : decode jcCan 0 = .ok (.iload_n 0, 1) := by decide +kernel
theorem jd_can1 : decode jcCan 1 = .ok (.ifCond .lt 14, 3) := by decide +kernel
theorem jd_can4 : decode jcCan 4 = .ok (.iload_n 0, 1) := by decide +kernel
theorem jd_can5 : decode jcCan 5 = .ok (.sipush 255, 3) := by decide +kernel
theorem jd_can8 : decode jcCan 8 = .ok (.if_icmp .gt 7, 3) := by decide +kernel
theorem jd_can11 : decode jcCan 11 = .ok (.iconst 1, 1) := by decide +kernel
theorem jd_can12 : decode jcCan 12 = .ok (.goto 4, 3) := by decide +kernel
theorem jd_can15 : decode jcCan 15 = .ok (.iconst 0, 1) := by decide +kernel
theorem jd_can16 : decode jcCan 16 = .ok (.ireturn, 1) := by decide +kernel
theorem jd_pre0 : decode jcPre 0 = .ok (.iload_n 0, 1) := by decide +kernel
theorem jd_pre1 : decode jcPre 1 = .ok (.ifCond .lt 8, 3) := by decide +kernel
theorem jd_pre4 : decode jcPre 4 = .ok (.iload_n 0, 1) := by decide +kernel
theorem jd_pre5 : decode jcPre 5 = .ok (.iload_n 1, 1) := by decide +kernel
theorem jd_pre6 : decode jcPre 6 = .ok (.if_icmp .lt 10, 3) := by decide +kernel
theorem jd_pre9 : decode jcPre 9 = .ok (.aload_n 2, 1) := by decide +kernel
theorem jd_pre10 : decode jcPre 10 = .ok (.iload_n 0, 1) := by decide +kernel
theorem jd_pre11 : decode jcPre 11 = .ok (.iload_n 1, 1) := by decide +kernel
theorem jd_pre12 : decode jcPre 12 = .ok (.invokestatic 95, 3) := by decide +kernel
theorem jd_pre15 : decode jcPre 15 = .ok (.athrow, 1) := by decide +kernel
theorem jd_pre16 : decode jcPre 16 = .ok (.iload_n 0, 1) := by decide +kernel
theorem jd_pre17 : decode jcPre 17 = .ok (.ireturn, 1) := by decide +kernel
theorem jd_chk0 : decode jcChk 0 = .ok (.iload_n 0, 1) := by decide +kernel
theorem jd_chk1 : decode jcChk 1 = .ok (.iload_n 1, 1) := by decide +kernel
theorem jd_chk2 : decode jcChk 2 = .ok (.getstatic 1053, 3) := by decide +kernel
theorem jd_chk5 : decode jcChk 5 = .ok (.invokestatic 1059, 3) := by decide +kernel
theorem jd_chk8 : decode jcChk 8 = .ok (.pop, 1) := by decide +kernel
theorem jd_chk9 : decode jcChk 9 = .ok (.return_, 1) := by decide +kernel
theorem jd_lch0 : decode jcLCh 0 = .ok (.iload_n 1, 1) := by decide +kernel
theorem jd_lch1 : decode jcLCh 1 = .ok (.aload_n 0, 1) := by decide +kernel
theorem jd_lch2 : decode jcLCh 2 = .ok (.arraylength, 1) := by decide +kernel
theorem jd_lch3 : decode jcLCh 3 = .ok (.invokestatic 9, 3) := by decide +kernel
theorem jd_lch6 : decode jcLCh 6 = .ok (.aload_n 0, 1) := by decide +kernel
theorem jd_lch7 : decode jcLCh 7 = .ok (.iload_n 1, 1) := by decide +kernel
theorem jd_lch8 : decode jcLCh 8 = .ok (.baload, 1) := by decide +kernel
theorem jd_lch9 : decode jcLCh 9 = .ok (.sipush 255, 3) := by decide +kernel
theorem jd_lch12 : decode jcLCh 12 = .ok (.iand, 1) := by decide +kernel
theorem jd_lch13 : decode jcLCh 13 = .ok (.i2c, 1) := by decide +kernel
theorem jd_lch14 : decode jcLCh 14 = .ok (.ireturn, 1) := by decide +kernel
theorem jd_chr0 : decode jcChr 0 = .ok (.aload_n 0, 1) := by decide +kernel
theorem jd_chr1 : decode jcChr 1 = .ok (.invokevirtual 492, 3) := by decide +kernel
theorem jd_chr4 : decode jcChr 4 = .ok (.ifCond .eq 12, 3) := by decide +kernel
theorem jd_chr7 : decode jcChr 7 = .ok (.aload_n 0, 1) := by decide +kernel
theorem jd_chr8 : decode jcChr 8 = .ok (.getfield 9, 3) := by decide +kernel
theorem jd_chr11 : decode jcChr 11 = .ok (.iload_n 1, 1) := by decide +kernel
theorem jd_chr12 : decode jcChr 12 = .ok (.invokestatic 495, 3) := by decide +kernel
theorem jd_chr15 : decode jcChr 15 = .ok (.ireturn, 1) := by decide +kernel
theorem jd_chr16 : decode jcChr 16 = .ok (.aload_n 0, 1) := by decide +kernel
theorem jd_chr17 : decode jcChr 17 = .ok (.getfield 9, 3) := by decide +kernel
theorem jd_chr20 : decode jcChr 20 = .ok (.iload_n 1, 1) := by decide +kernel
theorem jd_chr21 : decode jcChr 21 = .ok (.invokestatic 498, 3) := by decide +kernel
theorem jd_chr24 : decode jcChr 24 = .ok (.ireturn, 1) := by decide +kernel
set_option maxHeartbeats 4000000 in
set_option maxRecDepth 100000 in
theorem j_lat (hi : i < 67) : Met l jyLat (jw jyLat jcLat 1 (some .boolean)) (jRm 0 0) (jPc G [.ref (G.2.2.2.2.2.1 i)]) (jQi G 1) 0 0 (fun _ => False) := by
  refine Met.ofW (cc := jcLat) (maxL := 1) (ret := some .boolean) (by decide) rfl ?_
  intro p e s m args below meth c s₁ B hml hv
  obtain ⟨rfl, hGr⟩ := hv
  have hx := B.exec
  have hb := B.bytes
  have hr := B.returns
  have hts0 := atoms_spec (ws := jw jyLat jcLat 1 (some .boolean)) B.pre
  have htA : ∀ w ∈ xTg, w.before _ s = true := fun w h => hts0 w (List.mem_cons_of_mem _ h)
  have hts : ∀ w ∈ jWords, w.before _ s = true := fun w h => htA w (jW h)
  have hown : s.vm.findClass jS = some m.cls := findClass_of_methodNamed B.named
  have hlocks := B.notSynchronized
  have hS : va_S (xA G) s.heap s.heap [] := va_S.rf
  have hl := lv_entry ([.ref (G.2.2.2.2.2.1 i)]) (n := 1) (Nat.le_of_ble_eq_true rfl)
  rw [lg_entry_eq]
  generalize (lg_sl ([.ref (G.2.2.2.2.2.1 i)]) ++ List.replicate (1 - (lg_sl ([.ref (G.2.2.2.2.2.1 i)])).length) Slot.unset).toArray = ls at hl ⊢
  have hl : lv_has ls 1 [(0, .ref (G.2.2.2.2.2.1 i))] := hl
  have hstr := hGr.2.2.2.1 i hi
  refine va_gets hx hb hGr.2.2.2.2.2.1.1 hS hown (hts _ (List.mem_of_getElem? (i := 0) rfl)) (fun _ h => h) jd_lat0 ?_
  refine lv_if_eq hx hb jd_lat3 (tgt := 17) rfl (fun h => absurd h (by decide)) (fun _ => ?_)
  refine lv_aload_n hx hb jd_lat6 rfl (lv_at hl 0 rfl) ?_
  refine vk_getf hx hb hstr.2.1 hS hown (hts _ (List.mem_of_getElem? (i := 1) rfl)) (fun _ h => h) jd_lat7 ?_
  refine lv_if_ne hx hb jd_lat10 (tgt := 17) rfl (fun h => absurd h (by decide)) (fun _ => ?_)
  refine lv_iconst (v := 1) hx hb jd_lat13 (by decide) ?_
  refine lv_goto hx hb jd_lat14 (tgt := 18) rfl ?_
  exact W.zret (v := 1) hx hb hr rfl (fun t ht hW => ⟨jr (rfl), ht⟩) jnil jd_lat18 hlocks
set_option maxHeartbeats 4000000 in
set_option maxRecDepth 100000 in
theorem j_len (hi : i < 67) : Met l jyLen (jw jyLen jcLen 1 (some .int)) (jRm 1 20) (jPc G [.ref (G.2.2.2.2.2.1 i)]) (jQi G (nI (jLen i))) 0 0 (fun _ => False) := by
  refine Met.ofW (cc := jcLen) (maxL := 1) (ret := some .int) (by decide) rfl ?_
  intro p e s m args below meth c s₁ B hml hv
  obtain ⟨rfl, hGr⟩ := hv
  have hx := B.exec
  have hb := B.bytes
  have hr := B.returns
  have hts0 := atoms_spec (ws := jw jyLen jcLen 1 (some .int)) B.pre
  have htA : ∀ w ∈ xTg, w.before _ s = true := fun w h => hts0 w (List.mem_cons_of_mem _ h)
  have hts : ∀ w ∈ jWords, w.before _ s = true := fun w h => htA w (jW h)
  have hown : s.vm.findClass jS = some m.cls := findClass_of_methodNamed B.named
  have hlocks := B.notSynchronized
  have hS : va_S (xA G) s.heap s.heap [] := va_S.rf
  have hl := lv_entry ([.ref (G.2.2.2.2.2.1 i)]) (n := 1) (Nat.le_of_ble_eq_true rfl)
  rw [lg_entry_eq]
  generalize (lg_sl ([.ref (G.2.2.2.2.2.1 i)]) ++ List.replicate (1 - (lg_sl ([.ref (G.2.2.2.2.2.1 i)])).length) Slot.unset).toArray = ls at hl ⊢
  have hl : lv_has ls 1 [(0, .ref (G.2.2.2.2.2.1 i))] := hl
  have hstr := hGr.2.2.2.1 i hi
  refine lv_aload_n hx hb jd_len0 rfl (lv_at hl 0 rfl) ?_
  refine vk_getf hx hb hstr.2.2.1 hS hown (hts _ (List.mem_of_getElem? (i := 2) rfl)) (fun _ h => h) jd_len1 ?_
  refine va_tlen hx hb hstr.2.2.2 hS (v := nI (jLen i)) rfl jd_len4 ?_
  refine lv_aload_n hx hb jd_len5 rfl (lv_at hl 0 rfl) ?_
  refine j_call (va_runV (C := jS) (As := []) (rest := [.int (nI (jLen i))]) ⟨hx, hb, hml, hown, htA⟩ (j_cod hi) ⟨callB_of 0 htA (jgood (jW (List.mem_of_getElem? (i := 7) rfl))) rfl rfl rfl (hts _ (List.mem_of_getElem? (i := 6) rfl)) (hts _ (List.mem_of_getElem? (i := 3) rfl)) (by decide +kernel) ⟨Nat.le_of_ble_eq_true rfl, Nat.le_of_ble_eq_true rfl⟩, (hts _ (List.mem_of_getElem? (i := 4) rfl)), (hts _ (List.mem_of_getElem? (i := 5) rfl))⟩ ⟨jPc.blind, va_Orecv hstr.1 hS, jPc.at hGr hS⟩ rfl rfl hl.1 rfl (lv_room (Nat.le_of_ble_eq_true rfl)) jd_len6 ⟨Nat.zero_le _, Nat.zero_le _⟩) ?_
  refine lv_ishr hx hb jd_len9 ?_
  exact W.iret (v := nI (jLen i) >>> ((0 : Int32) &&& 31)) hx hb hr (fun t ht hW => ⟨jr (sc_shr0 (jLen_lt hi)), ht⟩) jnil jd_len10 hlocks
set_option maxHeartbeats 4000000 in
set_option maxRecDepth 100000 in
theorem j_can {x : Int32} : Met l jyCan (jw jyCan jcCan 1 (some .boolean)) (jRm 0 0) (jPc G [.int x]) (jQi G (if x < 0 then 0 else if 255 < x then 0 else 1)) 0 0 (fun _ => False) := by
  refine Met.ofW (cc := jcCan) (maxL := 1) (ret := some .boolean) (by decide) rfl ?_
  intro p e s m args below meth c s₁ B hml hv
  obtain ⟨rfl, hGr⟩ := hv
  have hx := B.exec
  have hb := B.bytes
  have hr := B.returns
  have hts0 := atoms_spec (ws := jw jyCan jcCan 1 (some .boolean)) B.pre
  have htA : ∀ w ∈ xTg, w.before _ s = true := fun w h => hts0 w (List.mem_cons_of_mem _ h)
  have hts : ∀ w ∈ jWords, w.before _ s = true := fun w h => htA w (jW h)
  have hown : s.vm.findClass jL = some m.cls := findClass_of_methodNamed B.named
  have hlocks := B.notSynchronized
  have hS : va_S (xA G) s.heap s.heap [] := va_S.rf
  have hl := lv_entry ([.int x]) (n := 1) (Nat.le_of_ble_eq_true rfl)
  rw [lg_entry_eq]
  generalize (lg_sl ([.int x]) ++ List.replicate (1 - (lg_sl ([.int x])).length) Slot.unset).toArray = ls at hl ⊢
  have hl : lv_has ls 1 [(0, .int x)] := hl
  refine lv_iload_n hx hb jd_can0 rfl (lv_at hl 0 rfl) ?_
  refine lv_if_lt hx hb jd_can1 (tgt := 15) rfl (fun h => ?_) (fun h => ?_)
  · refine lv_iconst (v := 0) hx hb jd_can15 (by decide) ?_
    exact W.zret (v := 0) hx hb hr rfl (fun t ht hW => ⟨jr (by rw [if_pos h]), ht⟩) jnil jd_can16 hlocks
  · refine lv_iload_n hx hb jd_can4 rfl (lv_at hl 0 rfl) ?_
    refine lv_sipush (v := 255) hx hb jd_can5 (by decide) ?_
    refine lv_icmp_gt hx hb jd_can8 (tgt := 15) rfl (fun h2 => ?_) (fun h2 => ?_)
    · refine lv_iconst (v := 0) hx hb jd_can15 (by decide) ?_
      exact W.zret (v := 0) hx hb hr rfl (fun t ht hW => ⟨jr (by rw [if_neg h, if_pos h2]), ht⟩) jnil jd_can16 hlocks
    · refine lv_iconst (v := 1) hx hb jd_can11 (by decide) ?_
      refine lv_goto hx hb jd_can12 (tgt := 16) rfl ?_
      exact W.zret (v := 1) hx hb hr rfl (fun t ht hW => ⟨jr (by rw [if_neg h, if_neg h2]), ht⟩) jnil jd_can16 hlocks
set_option maxHeartbeats 4000000 in
set_option maxRecDepth 100000 in
theorem j_preN {x n : Int32} (h0 : ¬ x < 0) (h1 : x < n) : Met l jyPre (jw jyPre jcPre 3 (some .int)) (jRm 0 0) (jPc G [.int x, .int n, .null]) (jQi G x) 0 0 (fun _ => False) := by
  refine Met.ofW (cc := jcPre) (maxL := 3) (ret := some .int) (by decide) rfl ?_
  intro p e s m args below meth c s₁ B hml hv
  obtain ⟨rfl, hGr⟩ := hv
  have hx := B.exec
  have hb := B.bytes
  have hr := B.returns
  have hts0 := atoms_spec (ws := jw jyPre jcPre 3 (some .int)) B.pre
  have htA : ∀ w ∈ xTg, w.before _ s = true := fun w h => hts0 w (List.mem_cons_of_mem _ h)
  have hts : ∀ w ∈ jWords, w.before _ s = true := fun w h => htA w (jW h)
  have hown : s.vm.findClass jP = some m.cls := findClass_of_methodNamed B.named
  have hlocks := B.notSynchronized
  have hS : va_S (xA G) s.heap s.heap [] := va_S.rf
  have hl := lv_entry ([.int x, .int n, .null]) (n := 3) (Nat.le_of_ble_eq_true rfl)
  rw [lg_entry_eq]
  generalize (lg_sl ([.int x, .int n, .null]) ++ List.replicate (3 - (lg_sl ([.int x, .int n, .null])).length) Slot.unset).toArray = ls at hl ⊢
  have hl : lv_has ls 3 [(0, .int x), (1, .int n), (2, .null)] := hl
  refine lv_iload_n hx hb jd_pre0 rfl (lv_at hl 0 rfl) ?_
  refine lv_if_lt hx hb jd_pre1 (tgt := 9) rfl (fun h => absurd h h0) (fun _ => ?_)
  refine lv_iload_n hx hb jd_pre4 rfl (lv_at hl 0 rfl) ?_
  refine lv_iload_n hx hb jd_pre5 rfl (lv_at hl 1 rfl) ?_
  refine lv_icmp_lt hx hb jd_pre6 (tgt := 16) rfl (fun _ => ?_) (fun h => absurd h1 h)
  refine lv_iload_n hx hb jd_pre16 rfl (lv_at hl 0 rfl) ?_
  exact W.iret (v := x) hx hb hr (fun t ht hW => ⟨jr (rfl), ht⟩) jnil jd_pre17 hlocks
set_option maxHeartbeats 4000000 in
set_option maxRecDepth 100000 in
theorem j_preR {x n : Int32} {q : Nat} (h0 : ¬ x < 0) (h1 : x < n) : Met l jyPre (jw jyPre jcPre 3 (some .int)) (jRm 0 0) (jPc G [.int x, .int n, .ref q]) (jQi G x) 0 0 (fun _ => False) := by
  refine Met.ofW (cc := jcPre) (maxL := 3) (ret := some .int) (by decide) rfl ?_
  intro p e s m args below meth c s₁ B hml hv
  obtain ⟨rfl, hGr⟩ := hv
  have hx := B.exec
  have hb := B.bytes
  have hr := B.returns
  have hts0 := atoms_spec (ws := jw jyPre jcPre 3 (some .int)) B.pre
  have htA : ∀ w ∈ xTg, w.before _ s = true := fun w h => hts0 w (List.mem_cons_of_mem _ h)
  have hts : ∀ w ∈ jWords, w.before _ s = true := fun w h => htA w (jW h)
  have hown : s.vm.findClass jP = some m.cls := findClass_of_methodNamed B.named
  have hlocks := B.notSynchronized
  have hS : va_S (xA G) s.heap s.heap [] := va_S.rf
  have hl := lv_entry ([.int x, .int n, .ref q]) (n := 3) (Nat.le_of_ble_eq_true rfl)
  rw [lg_entry_eq]
  generalize (lg_sl ([.int x, .int n, .ref q]) ++ List.replicate (3 - (lg_sl ([.int x, .int n, .ref q])).length) Slot.unset).toArray = ls at hl ⊢
  have hl : lv_has ls 3 [(0, .int x), (1, .int n), (2, .ref q)] := hl
  refine lv_iload_n hx hb jd_pre0 rfl (lv_at hl 0 rfl) ?_
  refine lv_if_lt hx hb jd_pre1 (tgt := 9) rfl (fun h => absurd h h0) (fun _ => ?_)
  refine lv_iload_n hx hb jd_pre4 rfl (lv_at hl 0 rfl) ?_
  refine lv_iload_n hx hb jd_pre5 rfl (lv_at hl 1 rfl) ?_
  refine lv_icmp_lt hx hb jd_pre6 (tgt := 16) rfl (fun _ => ?_) (fun h => absurd h1 h)
  refine lv_iload_n hx hb jd_pre16 rfl (lv_at hl 0 rfl) ?_
  exact W.iret (v := x) hx hb hr (fun t ht hW => ⟨jr (rfl), ht⟩) jnil jd_pre17 hlocks
set_option maxHeartbeats 4000000 in
set_option maxRecDepth 100000 in
theorem j_chk {x n : Int32} (h0 : ¬ x < 0) (h1 : x < n) : Met l jyChk (jw jyChk jcChk 2 none) (jRm 1 22) (jPc G [.int x, .int n]) (jQv G) 0 0 (fun _ => False) := by
  refine Met.ofW (cc := jcChk) (maxL := 2) (ret := none) (by decide) rfl ?_
  intro p e s m args below meth c s₁ B hml hv
  obtain ⟨rfl, hGr⟩ := hv
  have hx := B.exec
  have hb := B.bytes
  have hr := B.returns
  have hts0 := atoms_spec (ws := jw jyChk jcChk 2 (none)) B.pre
  have htA : ∀ w ∈ xTg, w.before _ s = true := fun w h => hts0 w (List.mem_cons_of_mem _ h)
  have hts : ∀ w ∈ jWords, w.before _ s = true := fun w h => htA w (jW h)
  have hown : s.vm.findClass jS = some m.cls := findClass_of_methodNamed B.named
  have hlocks := B.notSynchronized
  have hS : va_S (xA G) s.heap s.heap [] := va_S.rf
  have hl := lv_entry ([.int x, .int n]) (n := 2) (Nat.le_of_ble_eq_true rfl)
  rw [lg_entry_eq]
  generalize (lg_sl ([.int x, .int n]) ++ List.replicate (2 - (lg_sl ([.int x, .int n])).length) Slot.unset).toArray = ls at hl ⊢
  have hl : lv_has ls 2 [(0, .int x), (1, .int n)] := hl
  refine lv_iload_n hx hb jd_chk0 rfl (lv_at hl 0 rfl) ?_
  refine lv_iload_n hx hb jd_chk1 rfl (lv_at hl 1 rfl) ?_
  rcases hGr.2.2.2.2.2.1.2 with hq | ⟨q, hq⟩
  · skip
    refine va_gets hx hb hq hS hown (hts _ (List.mem_of_getElem? (i := 19) rfl)) (fun _ h => h) jd_chk2 ?_
    refine j_call (va_runS (As := [.int x, .int n, .null]) (rest := []) ⟨hx, hb, hml, hown, htA⟩ (j_preN h0 h1) ⟨callB_of 3 htA (jgood (jW (List.mem_of_getElem? (i := 23) rfl))) rfl rfl rfl (hts _ (List.mem_of_getElem? (i := 22) rfl)) (hts _ (List.mem_of_getElem? (i := 20) rfl)) (by decide +kernel) ⟨Nat.le_of_ble_eq_true rfl, Nat.le_of_ble_eq_true rfl⟩, (hts _ (List.mem_of_getElem? (i := 21) rfl))⟩ ⟨jPc.blind, jPc.at hGr hS⟩ rfl rfl hl.1 rfl (lv_room (Nat.le_of_ble_eq_true rfl)) jd_chk5 ⟨Nat.zero_le _, Nat.zero_le _⟩) ?_
    refine lv_pop hx hb jd_chk8 rfl ?_
    exact W.vret hx hb hr (fun t ht hW => ⟨rfl, ht⟩) jnil jd_chk9 hlocks
  · skip
    refine va_gets hx hb hq hS hown (hts _ (List.mem_of_getElem? (i := 19) rfl)) (fun _ h => h) jd_chk2 ?_
    refine j_call (va_runS (As := [.int x, .int n, .ref q]) (rest := []) ⟨hx, hb, hml, hown, htA⟩ (j_preR h0 h1) ⟨callB_of 3 htA (jgood (jW (List.mem_of_getElem? (i := 23) rfl))) rfl rfl rfl (hts _ (List.mem_of_getElem? (i := 22) rfl)) (hts _ (List.mem_of_getElem? (i := 20) rfl)) (by decide +kernel) ⟨Nat.le_of_ble_eq_true rfl, Nat.le_of_ble_eq_true rfl⟩, (hts _ (List.mem_of_getElem? (i := 21) rfl))⟩ ⟨jPc.blind, jPc.at hGr hS⟩ rfl rfl hl.1 rfl (lv_room (Nat.le_of_ble_eq_true rfl)) jd_chk5 ⟨Nat.zero_le _, Nat.zero_le _⟩) ?_
    refine lv_pop hx hb jd_chk8 rfl ?_
    exact W.vret hx hb hr (fun t ht hW => ⟨rfl, ht⟩) jnil jd_chk9 hlocks
set_option maxHeartbeats 4000000 in
set_option maxRecDepth 100000 in
theorem j_lch {k : Nat} (hi : i < 67) (hk : k < jLen i) : Met l jyLCh (jw jyLCh jcLCh 2 (some .char)) (jRm 2 43) (jPc G [.ref (G.2.2.2.2.2.2 i), .int (nI k)]) (jQi G (jByt i k &&& 255)) 0 0 (fun _ => False) := by
  refine Met.ofW (cc := jcLCh) (maxL := 2) (ret := some .char) (by decide) rfl ?_
  intro p e s m args below meth c s₁ B hml hv
  obtain ⟨rfl, hGr⟩ := hv
  have hx := B.exec
  have hb := B.bytes
  have hr := B.returns
  have hts0 := atoms_spec (ws := jw jyLCh jcLCh 2 (some .char)) B.pre
  have htA : ∀ w ∈ xTg, w.before _ s = true := fun w h => hts0 w (List.mem_cons_of_mem _ h)
  have hts : ∀ w ∈ jWords, w.before _ s = true := fun w h => htA w (jW h)
  have hown : s.vm.findClass jL = some m.cls := findClass_of_methodNamed B.named
  have hlocks := B.notSynchronized
  have hS : va_S (xA G) s.heap s.heap [] := va_S.rf
  have hl := lv_entry ([.ref (G.2.2.2.2.2.2 i), .int (nI k)]) (n := 2) (Nat.le_of_ble_eq_true rfl)
  rw [lg_entry_eq]
  generalize (lg_sl ([.ref (G.2.2.2.2.2.2 i), .int (nI k)]) ++ List.replicate (2 - (lg_sl ([.ref (G.2.2.2.2.2.2 i), .int (nI k)])).length) Slot.unset).toArray = ls at hl ⊢
  have hl : lv_has ls 2 [(0, .ref (G.2.2.2.2.2.2 i)), (1, .int (nI k))] := hl
  have hstr := hGr.2.2.2.1 i hi
  have hlt := jLen_lt hi
  refine lv_iload_n hx hb jd_lch0 rfl (lv_at hl 1 rfl) ?_
  refine lv_aload_n hx hb jd_lch1 rfl (lv_at hl 0 rfl) ?_
  refine va_tlen hx hb hstr.2.2.2 hS (v := nI (jLen i)) rfl jd_lch2 ?_
  refine j_callv (va_runS (As := [.int (nI k), .int (nI (jLen i))]) (rest := []) ⟨hx, hb, hml, hown, htA⟩ (j_chk (nI_pos (by omega)) (nI_lt hk hlt)) ⟨callB_of 2 htA (jgood (jW (List.mem_of_getElem? (i := 18) rfl))) rfl rfl rfl (hts _ (List.mem_of_getElem? (i := 6) rfl)) (hts _ (List.mem_of_getElem? (i := 16) rfl)) (by decide +kernel) ⟨Nat.le_of_ble_eq_true rfl, Nat.le_of_ble_eq_true rfl⟩, (hts _ (List.mem_of_getElem? (i := 17) rfl))⟩ ⟨jPc.blind, jPc.at hGr hS⟩ rfl rfl hl.1 rfl (lv_room (Nat.le_of_ble_eq_true rfl)) jd_lch3 ⟨Nat.zero_le _, Nat.zero_le _⟩) ?_
  refine lv_aload_n hx hb jd_lch6 rfl (lv_at hl 0 rfl) ?_
  refine lv_iload_n hx hb jd_lch7 rfl (lv_at hl 1 rfl) ?_
  refine va_tb hx hb hstr.2.2.2 hS (vp_in_nI hk hlt) (v := .int (jByt i k)) (by rw [nI_clamp (by omega)]) jd_lch8 ?_
  refine lv_sipush (v := 255) hx hb jd_lch9 (by decide) ?_
  refine lv_iand hx hb jd_lch12 ?_
  refine lv_i2c (v := jByt i k &&& 255) hx hb jd_lch13 (sc_c2 _) ?_
  exact W.zret (v := jByt i k &&& 255) hx hb hr (sc_nar _) (fun t ht hW => ⟨jr (rfl), ht⟩) jnil jd_lch14 hlocks
set_option maxHeartbeats 4000000 in
set_option maxRecDepth 100000 in
theorem j_chr {k : Nat} (hi : i < 67) (hk : k < jLen i) : Met l jyChr (jw jyChr jcChr 2 (some .char)) (jRm 3 64) (jPc G [.ref (G.2.2.2.2.2.1 i), .int (nI k)]) (jQi G (jByt i k &&& 255)) 0 0 (fun _ => False) := by
  refine Met.ofW (cc := jcChr) (maxL := 2) (ret := some .char) (by decide) rfl ?_
  intro p e s m args below meth c s₁ B hml hv
  obtain ⟨rfl, hGr⟩ := hv
  have hx := B.exec
  have hb := B.bytes
  have hr := B.returns
  have hts0 := atoms_spec (ws := jw jyChr jcChr 2 (some .char)) B.pre
  have htA : ∀ w ∈ xTg, w.before _ s = true := fun w h => hts0 w (List.mem_cons_of_mem _ h)
  have hts : ∀ w ∈ jWords, w.before _ s = true := fun w h => htA w (jW h)
  have hown : s.vm.findClass jS = some m.cls := findClass_of_methodNamed B.named
  have hlocks := B.notSynchronized
  have hS : va_S (xA G) s.heap s.heap [] := va_S.rf
  have hl := lv_entry ([.ref (G.2.2.2.2.2.1 i), .int (nI k)]) (n := 2) (Nat.le_of_ble_eq_true rfl)
  rw [lg_entry_eq]
  generalize (lg_sl ([.ref (G.2.2.2.2.2.1 i), .int (nI k)]) ++ List.replicate (2 - (lg_sl ([.ref (G.2.2.2.2.2.1 i), .int (nI k)])).length) Slot.unset).toArray = ls at hl ⊢
  have hl : lv_has ls 2 [(0, .ref (G.2.2.2.2.2.1 i)), (1, .int (nI k))] := hl
  have hstr := hGr.2.2.2.1 i hi
  refine lv_aload_n hx hb jd_chr0 rfl (lv_at hl 0 rfl) ?_
  refine j_call (va_runV (C := jS) (As := []) (rest := []) ⟨hx, hb, hml, hown, htA⟩ (j_lat hi) ⟨callB_of 0 htA (jgood (jW (List.mem_of_getElem? (i := 11) rfl))) rfl rfl rfl (hts _ (List.mem_of_getElem? (i := 6) rfl)) (hts _ (List.mem_of_getElem? (i := 8) rfl)) (by decide +kernel) ⟨Nat.le_of_ble_eq_true rfl, Nat.le_of_ble_eq_true rfl⟩, (hts _ (List.mem_of_getElem? (i := 9) rfl)), (hts _ (List.mem_of_getElem? (i := 10) rfl))⟩ ⟨jPc.blind, va_Orecv hstr.1 hS, jPc.at hGr hS⟩ rfl rfl hl.1 rfl (lv_room (Nat.le_of_ble_eq_true rfl)) jd_chr1 ⟨Nat.zero_le _, Nat.zero_le _⟩) ?_
  refine lv_if_eq hx hb jd_chr4 (tgt := 16) rfl (fun h => absurd h (by decide)) (fun _ => ?_)
  refine lv_aload_n hx hb jd_chr7 rfl (lv_at hl 0 rfl) ?_
  refine vk_getf hx hb hstr.2.2.1 hS hown (hts _ (List.mem_of_getElem? (i := 2) rfl)) (fun _ h => h) jd_chr8 ?_
  refine lv_iload_n hx hb jd_chr11 rfl (lv_at hl 1 rfl) ?_
  refine j_call (va_runS (As := [.ref (G.2.2.2.2.2.2 i), .int (nI k)]) (rest := []) ⟨hx, hb, hml, hown, htA⟩ (j_lch hi hk) ⟨callB_of 2 htA (jgood (jW (List.mem_of_getElem? (i := 15) rfl))) rfl rfl rfl (hts _ (List.mem_of_getElem? (i := 14) rfl)) (hts _ (List.mem_of_getElem? (i := 12) rfl)) (by decide +kernel) ⟨Nat.le_of_ble_eq_true rfl, Nat.le_of_ble_eq_true rfl⟩, (hts _ (List.mem_of_getElem? (i := 13) rfl))⟩ ⟨jPc.blind, jPc.at hGr hS⟩ rfl rfl hl.1 rfl (lv_room (Nat.le_of_ble_eq_true rfl)) jd_chr12 ⟨Nat.zero_le _, Nat.zero_le _⟩) ?_
  exact W.zret (v := jByt i k &&& 255) hx hb hr (sc_nar _) (fun t ht hW => ⟨jr (rfl), ht⟩) jnil jd_chr15 hlocks
end JDK2
