/-! ===== THE LAW, FROM ITS ENTRY ===== -/
theorem st_xLit : (1 : Int32).toInt = 1 := rfl
theorem st_trace {l : Launch} (h : l.flags = flags0) : l.stackTraces = false := by
  unfold Launch.stackTraces
  rw [h]
  decide +kernel
theorem st_vBound {xs : Nat → Int32} (a i : Nat) : r32 (bV xs a i) := by
  unfold bV
  by_cases h : a < 70
  · rw [if_pos h]
    unfold tV0
    repeat' split
    · unfold r32; omega
    · exact r32_of _
    · unfold xback5; repeat' split
      all_goals (unfold r32; omega)
    · exact r32_of _
  · rw [if_neg h]; unfold r32; omega
theorem st_rel {G : xG} {s : State} {b L : Nat} {xs : Nat → Int32} (hG : G.2.2.2.1 = (b, L, xs)) : xRelT xTab2 G (tad0 G) (bV xs, cZ, cR [], bK L, 70, 0, 0) s.heap := by
  have hn : xws (tcl xTab2) G.2.1 (tad0 G) (tS xTab2) (bV xs, cZ, cR [], bK L, 70, 0, 0) = [] := List.eq_nil_of_length_eq_zero (by rw [xws_len]; rfl)
  refine ⟨Nat.le_refl 70, ?_, ?_, st_vBound, fun a i => by show r64 0; unfold r64; omega, fun a i => by show 0 < 70; omega, fun a h1 h2 => ?_, fun a h => ?_, fun a h => ⟨?_, fun i => ?_, rfl⟩⟩
  · rw [hn]; exact fun k q h => by cases h
  · rw [hn]; exact ⟨fun i j p q h => (by cases h), fun k q h => (by cases h)⟩
  · have h1 : 70 ≤ a := h1
    have h2 : a < 70 := h2
    omega
  · have h : 70 ≤ a := h
    show bK L a = (0, 0)
    unfold bK
    rw [if_neg (by omega)]
  · have h : a < 70 := h
    show bK L a = _
    rw [hG]
    unfold bK
    rw [if_pos h]
    rfl
  · have h : a < 70 := h
    show bV xs a i = _
    rw [hG]
    unfold bV
    rw [if_pos h]
    rfl
theorem whole_start {p : Program} {e : Env} {s : State} {m : MethodId} {below : List Frame} {meth : Method} {c : Code} (l : Launch) (hflags : l.flags = flags0) {b L : Nat} {xs : Nat → Int32} (hL : L ≤ 384) (C0 : lw_At p s m meth c b L xs) (hex : c.exceptionTable.toList = []) (hnm : meth.name = "law") : W p l e room_1 s m #[Value.ref b] below meth c s.heap [] 0 0 (lw_Z below #[Value.ref b] s) (entryFrame m ([Value.ref b] : List Value).toArray 7) := by
  obtain ⟨hx, hb, hr, hml, hown, hts, hX, hbl, hlocks, hgv⟩ := C0
  have hl0 := st_trace hflags
  obtain ⟨G, g1, g2, hGr⟩ := st_G hL hts hX hbl hgv
  obtain ⟨k, r, M', he, hr1, hc1, hs1⟩ := law_runs (xs := xs) (L := L) (d := 31) hL (by decide)
  have hC : xCx xTab2 l 381 p s m #[Value.ref b] meth c := ⟨hx, hb.trans st_law2.symm, hr.trans st_law3.symm, by rw [st_law1]; exact hown, fun w hw => hts w (List.mem_filter.mp hw).1, hlocks, hml.trans st_law5.symm, by rw [st_law4]; exact hex, by rw [st_law1]; exact hnm, hl0⟩
  have hR := st_rel (s := s) g2
  have hv : xRS (tad0 G) 70 [Value.ref b] [vr 1] := ⟨Or.inr ⟨by decide, by decide, by show Value.ref b = Value.ref G.2.2.2.1.1; rw [g2]⟩, trivial⟩
  rw [lg_entry_eq]
  have hRL := hv.entry' (nL := 7) (by decide +kernel)
  refine xwalk xtab2_ok x_in hl0 k (d := 31) (y := 381) (M := (bV xs, cZ, cR [], bK L, 70, 0, 0)) he hC hGr (Nat.le_of_eq g1) ?_ ?_ hR ?_ trivial va_S.rf (adm := tad0 G) (n0 := 70) (fun _ _ => rfl) (Nat.le_refl _) (kc := 0) (ks := 0) rfl rfl (by show _ ≤ 0 + 600128; omega) (by show _ ≤ 0 + 7301098; omega) ?_
  · unfold xfr
    rw [st_law6]
    decide
  · unfold xfr
    rw [st_law6]
    decide
  · rw [st_law5]; exact hRL
  · rw [hr1]
    intro ad H locs cells slots ls pc st hR2 hS2 _ hc2 hs2 hret
    obtain ⟨hd, ⟨w, hst, hw⟩, -⟩ := hret
    have hw1 : w = 1 := Int32.toInt.inj hw
    subst hw1
    subst hst
    refine va_forget (fun q hq => by have h := hS2.2.2 q hq; rw [← g1]; exact h) ?_
    refine W.widen (k := 600128) (n := 7301098) (by omega) (by omega) ?_
    exact lw_ret hx hb hr hlocks (by rw [← st_law2]; exact hd)
