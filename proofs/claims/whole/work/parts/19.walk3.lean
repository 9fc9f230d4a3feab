section WALK3
variable {T : xTT} {G : xG} {l : Launch}
set_option maxHeartbeats 4000000 in
theorem xend (hT : xOK T) {y pc : Nat} {ins : Instr} {len a b c0 : Nat} {z : Int} {g : List Prop} {als ast : List xV} {M M' : xM} {r : xRes} {p : Program} {e : Env} {R : Room} {s : State} {m : MethodId} {args : Array Value} {below : List Frame} {meth : Method} {c : Code} {H : Heap} {locs : List Loc} {cells slots : Nat} {Q : State → Prop} {ls : Array Slot} {st : List Value} {ad adm : Nat → Nat} {n0 kc ks : Nat}
    (hst0 : xstep (pc, ins, len, a, b, c0, z) als ast M = some (.inr (.inr (r, M')), g)) (hg : xall g) (hL : xLk T y (pc, ins, len, a, b, c0, z))
    (hC : xCx T l y p s m args meth c) (hR : xRelT T G ad M H) (hl : xRL ad M.2.2.2.2.1 ((tP T).2.1 y) ls als) (hst : xRS ad M.2.2.2.2.1 st ast) (hS : va_S (xA G) s.heap H locs) (hag : ∀ a, a < n0 → ad a = adm a)
    (hc : cells + kc = M.2.2.2.2.2.1) (hs : slots + ks = M.2.2.2.2.2.2) (hfin : xFin T G l p e R s m args below meth c Q y adm n0 kc ks r M') : W p l e R s m args below meth c H locs cells slots Q (F0 m pc ls st) := by
  have hL0 := hL
  obtain ⟨hd0, hL⟩ := hL
  dsimp only at hd0
  have hml : c.maxLocals = (tP T).2.1 y := hC.2.2.2.2.2.2.1
  cases ins <;> try (exfalso; simp only [xstep, xldI, xldL, xldA, xstI, xstL, xstA, xII, xLL, nx] at hst0; (repeat' split at hst0) <;> cases hst0; done)
  case new i =>
    rcases c0 with _ | c1
    · simp only [xstep, nx] at hst0
      cases hst0
    · simp only [xstep] at hst0
      split at hst0
      · cases hst0
        obtain ⟨ic, -, -, -, -, -, hh, -⟩ := hL
        match st, hst with
        | [], _ => exact (hfin hh).2 ad H locs cells slots ls pc M i len b c1 z rfl hR hS hag hc hs (by rw [hml]; exact hl.2.1) hL0
      · cases hst0
  case ireturn =>
    obtain ⟨e1, hL⟩ := hL
    subst e1
    simp only [xstep] at hst0
    split at hst0
    · rename_i x
      cases hst0
      obtain ⟨w, vs, rfl, ew, hst2⟩ := hst.i1
      match vs, hst2 with
      | [], _ =>
        refine hfin ad H locs cells slots ls pc [.int w] hR hS hag hc hs ⟨hd0, ⟨w, rfl, ew⟩, ?_⟩
        rcases hL with ⟨h, h2⟩ | ⟨h, h2⟩ | ⟨h, h2⟩
        · subst h
          exact Or.inr (Or.inl ⟨h2, hg⟩)
        · subst h
          exact Or.inr (Or.inr ⟨h2, hg⟩)
        · exact Or.inl h2
    · cases hst0
  case lreturn =>
    obtain ⟨e1, hL⟩ := hL
    subst e1
    simp only [xstep] at hst0
    split at hst0
    · rename_i x
      cases hst0
      obtain ⟨w, vs, rfl, ew, hst2⟩ := hst.l1
      match vs, hst2 with
      | [], _ => exact hfin ad H locs cells slots ls pc [.long w] hR hS hag hc hs ⟨hd0, ⟨w, rfl, ew⟩, hL⟩
    · cases hst0
  case areturn =>
    obtain ⟨e1, hL⟩ := hL
    subst e1
    simp only [xstep] at hst0
    split at hst0
    · rename_i x
      cases hst0
      have hg : x ≠ 0 := hg
      obtain ⟨vs, rfl, hxn, hst2⟩ := hst.r1 hg
      match vs, hst2 with
      | [], _ => exact hfin ad H locs cells slots ls pc [.ref (ad x)] hR hS hag hc hs ⟨hd0, rfl, hg, hxn, hL⟩
    · cases hst0
  case return_ =>
    obtain ⟨e1, hL⟩ := hL
    subst e1
    simp only [xstep] at hst0
    split at hst0
    · cases hst0
      match st, hst with
      | [], _ => exact hfin ad H locs cells slots ls pc [] hR hS hag hc hs ⟨hd0, rfl, hL⟩
    · cases hst0
set_option maxHeartbeats 4000000 in
/-- WHAT THE PLAIN MACHINE DOES, THE JVM DOES -/
theorem xwalk (hT : xOK T) (hI : xIn T G l) (hl0 : l.stackTraces = false) : ∀ k, XW T G l k := by
  intro k
  induction k with
  | zero => intro d y pc als ast M M' r h; cases h
  | succ k IH =>
    intro d y pc als ast M M' r h p e R s m args below meth c H locs cells slots Q ls st ad adm n0 kc ks hC hGr hA hRf hRl hR hl hst hS hag hn0 hc hs hb1 hb2 hfin
    rw [exec_succ] at h
    split at h
    · cases h
    · rename_i e9 he9
      obtain ⟨hmem, hpc⟩ := xfind_mem he9
      have hL := hT.2.1 y e9 hmem
      split at h
      · cases h
      · rename_i o g hs9
        obtain ⟨pc9, ins, len, a, b, c0, z⟩ := e9
        dsimp only at hpc
        subst hpc
        by_cases hg : xall g
        · rw [if_pos hg] at h
          have hle := xstep_le hs9
          match o, hle, hs9, h with
          | .inl (pc', ls', st', M2), hle, hs9, h =>
            have h2 := exec_le h
            obtain ⟨q1, q2, q3⟩ := h2
            obtain ⟨w1, w2, w3⟩ := (hle : xLe M M2)
            have h8 : 8 ≤ R.frames := by unfold xfr at hRf; omega
            have h512 : 512 ≤ R.locals := by unfold xfr at hRl; omega
            have kk : xKK T G l p e R s m args below meth c Q ((tP T).2.1 y) ad M cells slots pc' ls' st' M2 := by
              intro ad' H' locs' cells' slots' lsv' stv' hR' hl' hst' hS' ha' hn' hc' hs'
              exact IH h hC hGr hA hRf hRl hR' hl' hst' hS' (fun a h9 => by rw [ha' a (Nat.lt_of_lt_of_le h9 hn0)]; exact hag a h9) (Nat.le_trans hn0 hn') (by omega) (by omega) hb1 hb2 hfin
            rcases xcls ins with h9 | h9 | h9
            · exact xs_pure hT hs9 hg hL hC hGr hR hl hst hS kk h9
            · exact xs_mem hT hI hs9 hg hL hC hGr hA h8 h512 hR hl hC.2.2.2.2.2.2.1.symm hst hS (by omega) (by omega) (by omega) (by omega) kk h9
            · exact absurd hs9 (h9 _ _ _ _ _ _ _ _ _ _ _)
          | .inr (.inr (r9, M9)), hle, hs9, h =>
            cases h
            exact xend hT hs9 hg hL hC hR hl hst hS hag hc hs hfin
          | .inr (.inl (y', xs, rest)), hle, hs9, h =>
            dsimp only at h
            split at h
            · cases h
            · rename_i d' hd
              split at h
              · cases h
              · rename_i M1 hc1
                exact xcall hT hl0 IH hs9 hg hL hd hc1 hC hGr hA hRf hRl hR hl hst hS hag hn0 hc hs (exec_le h) hb1 hb2 hfin h
              · rename_i v M1 hc1
                exact xcall hT hl0 IH hs9 hg hL hd hc1 hC hGr hA hRf hRl hR hl hst hS hag hn0 hc hs (exec_le h) hb1 hb2 hfin h
              · rename_i E M1 hc1
                have hle2 : xLe M1 M' := by
                  split at h
                  · split at h
                    · cases h; exact xLe.rf _
                    · cases h
                  · exact exec_le h
                exact xcall hT hl0 IH hs9 hg hL hd hc1 hC hGr hA hRf hRl hR hl hst hS hag hn0 hc hs hle2 hb1 hb2 hfin h
        · rw [if_neg hg] at h
          cases h
end WALK3
