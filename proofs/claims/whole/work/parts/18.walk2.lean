section WALK2
variable {T : xTT} {G : xG} {l : Launch} {k : Nat}
theorem xRS.split {ad : Nat → Nat} {n : Nat} : ∀ {st : List Value} {xs : List xV} {i : Nat} {x : xV}, xRS ad n st xs → xs[i]? = some x → ∃ sa v sb, st = sa ++ v :: sb ∧ xRS ad n sa (xs.take i) ∧ xRV ad n v x ∧ xRS ad n sb (xs.drop (i + 1)) ∧ (xs.take (i + 1)).reverse = x :: (xs.take i).reverse
  | [], [], _, _, _, h => by simp at h
  | [], _ :: _, _, _, h, _ => h.elim
  | _ :: _, [], _, _, h, _ => h.elim
  | v :: st, y :: xs, 0, x, ⟨h1, h2⟩, h => by
    cases h
    exact ⟨[], v, st, rfl, trivial, h1, h2, rfl⟩
  | v :: st, y :: xs, i + 1, x, ⟨h1, h2⟩, h => by
    obtain ⟨sa, w, sb, e, g1, g2, g3, g4⟩ := xRS.split h2 (i := i) h
    refine ⟨v :: sa, w, sb, by rw [e]; rfl, ⟨h1, g1⟩, g2, g3, ?_⟩
    rw [List.take_succ_cons, List.take_succ_cons, List.reverse_cons, List.reverse_cons, g4]
    rfl
theorem xPc.blind {ad : Nat → Nat} {M : xM} {vs : List Value} : FrameBlind (xPc T G ad M vs) := by
  intro a U g mk h
  obtain ⟨h1, h2, h3, h4⟩ := h
  exact ⟨h1, h2.move (U := U.calling g mk a) (State.WarmedH.refl U) (Nat.le_refl _) (fun _ _ _ => rfl), h3, h4⟩
theorem xPc.at {ad : Nat → Nat} {M : xM} {vs : List Value} {s : State} {H : Heap} {locs : List Loc} (hGr : xGr T G s s.heap) (hA : G.2.2.1 ≤ s.heap.size) (hR : xRelT T G ad M H) (hS : va_S (xA G) s.heap H locs) : ∀ U : State, U.heap = H → s.WarmedH U.vm → xPc T G ad M vs vs.toArray U := by
  intro U hU hW
  refine ⟨rfl, ?_, by rw [hU]; exact Nat.le_trans hA hS.1, by rw [hU]; exact hR⟩
  rw [hU]
  exact hGr.move hW hS.1 hS.2.1
theorem xgood (hT : xOK T) {y : Nat} (hy : xMd T y) (hh : thh T y = []) : GoodIn (tTg T) (xwy T y) := by
  obtain ⟨-, -, h3, -⟩ := hy
  rw [if_pos hh] at h3
  intro w hw
  rcases List.mem_cons.mp hw with h | h
  · rw [h]; exact ⟨h3, good_of_word (hT.2.2.1 _ h3)⟩
  · exact ⟨h, good_of_word (hT.2.2.1 _ h)⟩
theorem xdep_spec {d d' y y' : Nat} {xs : List xV} (h : xdep (tP T) d y y' xs = some d') (hy : (tP T).2.2.1 y' < 60) : (xlay xs).length ≤ (tP T).2.1 y' ∧ xfr T d' y' + 1 ≤ xfr T d y := by
  unfold xdep at h
  split at h
  · rename_i h1
    refine ⟨Nat.le_of_ble_eq_true h1, ?_⟩
    unfold xfr
    split at h
    · rename_i h2
      cases h
      have h3 : (tP T).2.2.1 y' < (tP T).2.2.1 y := by
        have := Nat.le_of_ble_eq_true h2
        omega
      omega
    · split at h
      · cases h
      · cases h; omega
  · cases h
set_option maxHeartbeats 4000000 in
theorem xcall (hT : xOK T) (hl0 : l.stackTraces = false) (IH : XW T G l k) {d d' y pc : Nat} {ins : Instr} {len a b c0 : Nat} {z : Int} {g : List Prop} {als ast rest xs : List xV} {y' : Nat} {M M1 M' : xM} {r r1 : xRes} {p : Program} {e : Env} {R : Room} {s : State} {m : MethodId} {args : Array Value} {below : List Frame} {meth : Method} {c : Code} {H : Heap} {locs : List Loc} {cells slots : Nat} {Q : State → Prop} {ls : Array Slot} {st : List Value} {ad adm : Nat → Nat} {n0 kc ks : Nat}
    (hst0 : xstep (pc, ins, len, a, b, c0, z) als ast M = some (.inr (.inl (y', xs, rest)), g)) (hg : xall g) (hL : xLk T y (pc, ins, len, a, b, c0, z)) (hd : xdep (tP T) d y y' xs = some d') (he : exec (tP T) k d' y' 0 (xlocs ((tP T).2.1 y') xs) [] M = some (r1, M1))
    (hC : xCx T l y p s m args meth c) (hGr : xGr T G s s.heap) (hA : G.2.2.1 ≤ s.heap.size) (hRf : xfr T d y ≤ R.frames) (hRl : 40 * xfr T d y ≤ R.locals) (hR : xRelT T G ad M H) (hl : xRL ad M.2.2.2.2.1 ((tP T).2.1 y) ls als) (hst : xRS ad M.2.2.2.2.1 st ast) (hS : va_S (xA G) s.heap H locs) (hag : ∀ a, a < n0 → ad a = adm a) (hn0 : n0 ≤ M.2.2.2.2.1)
    (hc : cells + kc = M.2.2.2.2.2.1) (hs : slots + ks = M.2.2.2.2.2.2) (hle2 : xLe M1 M') (hb1 : M'.2.2.2.2.2.1 ≤ kc + R.cells) (hb2 : M'.2.2.2.2.2.2 ≤ ks + R.slots) (hfin : xFin T G l p e R s m args below meth c Q y adm n0 kc ks r M')
    (hk : xKont T k d y pc als rest r1 M1 (r, M')) : W p l e R s m args below meth c H locs cells slots Q (F0 m pc ls st) := by
  have hle := exec_le he
  obtain ⟨hle0, hle1, hle3⟩ := hle
  obtain ⟨hle4, hle5, hle6⟩ := hle2
  have hC0 := hC
  obtain ⟨hx, hb, hr, hown, hts, hlocks, hml, htab, hname, htr⟩ := hC0
  obtain ⟨hd0, hL⟩ := hL
  dsimp only at hd0
  have hmls : c.maxLocals = ls.size := by rw [hml]; exact hl.2.1.symm
  have fix0 : CallFix p m c (tbt T y) ((tP T).2.1 y) s args (tTg T) (tnm T y).cls := ⟨hx, hb, hml, hown, hts⟩
  have hsz : ls.size = (tP T).2.1 y := hl.2.1
  cases ins <;> try (first | (simp [xstep, xldI, xldL, xldA, xstI, xstL, xstA, xII, xLL, nx] at hst0; done) | (exfalso; simp only [xstep, xldI, xldL, xldA, xstI, xstL, xstA, xII, xLL, nx] at hst0; (repeat' split at hst0) <;> cases hst0; done))
  case invokestatic i =>
    obtain ⟨e1, hL⟩ := hL
    subst e1
    rcases b with _ | _ | b1
    · obtain ⟨w1, w2, har, hMd, hcat⟩ := hL
      simp only [xstep] at hst0
      cases hst0
      obtain ⟨hg1, hg⟩ := hg
      have hg1 := Nat.le_of_ble_eq_true hg1
      have hg : ((ast.drop c0).map xcat).sum ≤ 8 := Nat.le_of_ble_eq_true hg
      obtain ⟨hlen, hfr⟩ := xdep_spec hd hMd.2.2.2.2.2
      obtain ⟨ht, hdr⟩ := hst.take c0
      have hn : (st.take c0).reverse.length = c0 := by
        rw [List.length_reverse, List.length_take, hst.len]; omega
      have hmx := hMd.2.2.2.2.1
      have hroom : xfr T d' a + 1 ≤ R.frames ∧ 8 + ((tP T).2.1 a + 11) + 40 * xfr T d' a ≤ R.locals := ⟨by omega, by omega⟩
      have hf : cells + (M1.2.2.2.2.2.1 - M.2.2.2.2.2.1) ≤ R.cells ∧ slots + (M1.2.2.2.2.2.2 - M.2.2.2.2.2.2) ≤ R.slots := ⟨by omega, by omega⟩
      have hstk : st = (st.take c0).reverse.reverse ++ st.drop c0 := by rw [List.reverse_reverse, List.take_append_drop]
      by_cases hh : thh T a = []
      · have hM := xmet (G := G) IH hl0 he hMd hh ht.rev hlen
        refine x_after hT IH hC hGr hA hRf hRl hl hdr hS hag hn0 hc hs ⟨hle0, hle1, hle3⟩ hb1 hb2 hfin (mc := M1.2.2.2.2.2.1 - M.2.2.2.2.2.1) (ms := M1.2.2.2.2.2.2 - M.2.2.2.2.2.2) (by omega) (by omega) hcat hk
          (vx_runS (n := c0) fix0 hM ⟨callB_of c0 hts (xgood hT hMd hh) rfl rfl rfl (hts _ hMd.2.2.2.1) (hts _ w1) ⟨hMd.2.1.1, hMd.2.1.2, har⟩ hroom, hts _ w2⟩ ⟨xPc.blind, xPc.at hGr hA hR hS⟩ rfl hn hsz hstk (by show 2 * 0 + _ ≤ 8; rw [hdr.cats]; omega) hd0 hf)
      · have hM := xmetW (G := G) IH hl0 he hMd hh ht.rev hlen
        have hcw : Cond.codeWith (tnm T a) (tbt T a) ((tP T).2.1 a) (trt T a) (thh T a) ∈ tTg T := by
          have := hMd.2.2.1
          rw [if_neg hh] at this
          exact this
        have hrun := vx_runSW (meth := meth) (below := below) (e := e) (n := c0) (rest := st.drop c0) (g := F0 m pc ls st) (locs := locs) (cells := cells) (slots := slots) (H := H) fix0 hM (vx_cwSW c0 hts (fun w hw => by
            have hm : w ∈ tTg T := by
              rcases List.mem_append.mp hw with h | h
              · simp only [List.mem_cons, List.not_mem_nil, or_false] at h
                rcases h with h | h | h
                · rw [h]; exact w1
                · rw [h]; exact w2
                · rw [h]; exact hMd.2.2.2.1
              · rcases List.mem_cons.mp h with h | h
                · rw [h]; exact hcw
                · exact h
            exact ⟨hm, good_of_word (hT.2.2.1 _ hm)⟩) rfl rfl rfl ⟨hMd.2.1.1, hMd.2.1.2, har⟩ hroom) ⟨xPc.blind, xPc.at hGr hA hR hS⟩ rfl hn hsz hstk (by show 2 * 0 + _ ≤ 8; rw [hdr.cats]; omega) hd0 hf
        exact x_after hT IH hC hGr hA hRf hRl hl hdr hS hag hn0 hc hs ⟨hle0, hle1, hle3⟩ hb1 hb2 hfin (mc := M1.2.2.2.2.2.1 - M.2.2.2.2.2.1) (ms := M1.2.2.2.2.2.2 - M.2.2.2.2.2.2) (by omega) (by omega) hcat hk (fun T0 hT0 X => Or.inl (hrun T0 hT0 X))
    · simp only [xstep, nx] at hst0
      (repeat' split at hst0) <;> cases hst0
    · simp only [xstep, nx] at hst0
      (repeat' split at hst0) <;> cases hst0
  case invokespecial i =>
    obtain ⟨e1, hL⟩ := hL
    subst e1
    rcases b with _ | b1
    · obtain ⟨w1, w2, hnm, hret, h1c, har, hMd, hh, hcat⟩ := hL
      simp only [xstep] at hst0
      cases hst0
      obtain ⟨hg1, hg, hgr⟩ := hg
      have hg1 := Nat.le_of_ble_eq_true hg1
      have hg : ((ast.drop c0).map xcat).sum ≤ 8 := Nat.le_of_ble_eq_true hg
      obtain ⟨hlen, hfr⟩ := xdep_spec hd hMd.2.2.2.2.2
      obtain ⟨c1, rfl⟩ : ∃ c1, c0 = c1 + 1 := ⟨c0 - 1, by omega⟩
      rw [Nat.add_sub_cancel] at hgr har
      have hx1 : ∃ rr, ast[c1]? = some (.inr (.inr rr)) := by
        split at hgr
        · exact ⟨_, by assumption⟩
        · exact hgr.elim
      obtain ⟨rr, hx1⟩ := hx1
      obtain ⟨sa, v, sb, rfl, g1, g2, g3, g4⟩ := hst.split hx1
      obtain ⟨q, rfl, g2'⟩ : ∃ q, v = .ref q ∧ xRV ad M.2.2.2.2.1 (.ref q) (.inr (.inr rr)) := by
        rcases g2 with ⟨h, q, h2⟩ | ⟨h, h3, h2⟩
        · exact ⟨q, h2, Or.inl ⟨h, q, rfl⟩⟩
        · exact ⟨_, h2, Or.inr ⟨h, h3, rfl⟩⟩
      rw [g4] at he hd hlen
      have hvs : xRS ad M.2.2.2.2.1 (.ref q :: sa.reverse) (.inr (.inr rr) :: (ast.take c1).reverse) := ⟨g2', g1.rev⟩
      have hmx := hMd.2.2.2.2.1
      have hroom : xfr T d' a + 1 ≤ R.frames ∧ 8 + ((tP T).2.1 a + 11) + 40 * xfr T d' a ≤ R.locals := ⟨by omega, by omega⟩
      have hf : cells + (M1.2.2.2.2.2.1 - M.2.2.2.2.2.1) ≤ R.cells ∧ slots + (M1.2.2.2.2.2.2 - M.2.2.2.2.2.2) ≤ R.slots := ⟨by omega, by omega⟩
      have hn : sa.reverse.length = c1 := by
        rw [List.length_reverse, g1.len, List.length_take]; omega
      have hM := xmet (G := G) IH hl0 he hMd hh hvs hlen
      have hG := xgood hT hMd hh
      unfold xwy at hM hG
      rw [hret] at hM hG
      exact x_after hT IH hC hGr hA hRf hRl hl g3 hS hag hn0 hc hs ⟨hle0, hle1, hle3⟩ hb1 hb2 hfin (mc := M1.2.2.2.2.2.1 - M.2.2.2.2.2.1) (ms := M1.2.2.2.2.2.2 - M.2.2.2.2.2.2) (by omega) (by omega) hcat hk
          (vx_runI (n := c1) fix0 hM ⟨callB_of c1 hts hG rfl rfl rfl (hts _ hMd.2.2.2.1) (hts _ w1) ⟨hMd.2.1.1, hMd.2.1.2, har⟩ hroom, hnm, hts _ w2⟩ ⟨xPc.blind, xPc.at hGr hA hR hS⟩ rfl hn hsz (by rw [List.reverse_reverse]) (by show 2 * 0 + _ ≤ 8; rw [g3.cats]; omega) hd0 hf)
    · simp only [xstep, nx] at hst0
      (repeat' split at hst0) <;> cases hst0
  case invokevirtual i =>
    obtain ⟨e1, hL⟩ := hL
    subst e1
    rcases b with _ | _ | _ | b1
    · obtain ⟨w1, w2, w3, h1c, har, hMd, hh, hcat, cn, F, N, hz, hcl⟩ := hL
      simp only [xstep] at hst0
      cases hst0
      obtain ⟨hg1, hg, hgr⟩ := hg
      have hg1 := Nat.le_of_ble_eq_true hg1
      have hg : ((ast.drop c0).map xcat).sum ≤ 8 := Nat.le_of_ble_eq_true hg
      obtain ⟨hlen, hfr⟩ := xdep_spec hd hMd.2.2.2.2.2
      obtain ⟨c1, rfl⟩ : ∃ c1, c0 = c1 + 1 := ⟨c0 - 1, by omega⟩
      rw [Nat.add_sub_cancel] at hgr har
      have hx1 : ∃ rr, ast[c1]? = some (.inr (.inr rr)) ∧ (M.2.2.2.1 rr).1 = z.toNat := by
        split at hgr
        · rename_i rr h9
          exact ⟨rr, h9, hgr⟩
        · exact hgr.elim
      obtain ⟨rr, hx1, hx2⟩ := hx1
      obtain ⟨sa, v, sb, rfl, g1, g2, g3, g4⟩ := hst.split hx1
      have hx3 : (M.2.2.2.1 rr).1 = cn + 1 := by rw [hx2, hz]; omega
      have hr0 := hR.n0 hx3 (by omega)
      have g2' : v = .ref (ad rr) := by
        rcases g2 with ⟨h, -⟩ | ⟨h, h3, h2⟩
        · exact absurd h hr0
        · exact h2
      subst g2'
      have hcn : cn < (tcl T).length := (List.getElem?_eq_some_iff.mp hcl).1
      have h20 := hT.1.1
      obtain ⟨k1, k2⟩ := hR.made (t_low T _) (a := rr) (by omega) (by omega) (by omega)
      have hat := xws_at (cl := tcl T) (ca := G.2.1) (ad := ad) (S := tS T) (M := M) k1 k2
      rw [xcell_obj hcl (by omega) hx3] at hat
      rw [g4] at he hd hlen
      have hvs : xRS ad M.2.2.2.2.1 (.ref (ad rr) :: sa.reverse) (.inr (.inr rr) :: (ast.take c1).reverse) := ⟨g2, g1.rev⟩
      have hmx := hMd.2.2.2.2.1
      have hroom : xfr T d' a + 1 ≤ R.frames ∧ 8 + ((tP T).2.1 a + 11) + 40 * xfr T d' a ≤ R.locals := ⟨by omega, by omega⟩
      have hf : cells + (M1.2.2.2.2.2.1 - M.2.2.2.2.2.1) ≤ R.cells ∧ slots + (M1.2.2.2.2.2.2 - M.2.2.2.2.2.2) ≤ R.slots := ⟨by omega, by omega⟩
      have hn : sa.reverse.length = c1 := by
        rw [List.length_reverse, g1.len, List.length_take]; omega
      have hM := xmet (G := G) IH hl0 he hMd hh hvs hlen
      exact x_after hT IH hC hGr hA hRf hRl hl g3 hS hag hn0 hc hs ⟨hle0, hle1, hle3⟩ hb1 hb2 hfin (mc := M1.2.2.2.2.2.1 - M.2.2.2.2.2.1) (ms := M1.2.2.2.2.2.2 - M.2.2.2.2.2.2) (by omega) (by omega) hcat hk
          (vx_runV (n := c1) (C := (tnm T a).cls) fix0 hM ⟨callB_of c1 hts (xgood hT hMd hh) rfl rfl rfl (hts _ hMd.2.2.2.1) (hts _ w1) ⟨hMd.2.1.1, hMd.2.1.2, har⟩ hroom, hts _ w2, hts _ w3⟩ ⟨xPc.blind, va_recv hGr.1 hR.2.1 hcl hat, xPc.at hGr hA hR hS⟩ rfl hn hsz (by rw [List.reverse_reverse]) (by show 2 * 0 + _ ≤ 8; rw [g3.cats]; omega) hd0 hf)
    all_goals
      simp only [xstep, nx] at hst0
      (repeat' split at hst0) <;> cases hst0
theorem xcls (ins : Instr) : xIsPure ins ∨ xIsMem ins ∨ ∀ (pc len a b c : Nat) (z : Int) (ls st : List xV) (M : xM) (q : Nat × List xV × List xV × xM) (g : List Prop), xstep (pc, ins, len, a, b, c, z) ls st M ≠ some (.inl q, g) := by
  cases ins <;> first | exact Or.inl trivial | exact Or.inr (Or.inl trivial) | (refine Or.inr (Or.inr fun pc len a b c z ls st M q g h => ?_); simp only [xstep, nx] at h; (repeat' split at h) <;> cases h)
end WALK2
