section MEMS
variable {T : xTT} {G : xG} {l : Launch} {y : Nat}
variable {p : Program} {e : Env} {R : Room} {s : State} {m : MethodId} {args : Array Value} {below : List Frame} {meth : Method} {c : Code} {H : Heap} {locs : List Loc} {cells slots : Nat} {Q : State → Prop}
variable {pc : Nat} {ls : Array Slot} {st : List Value} {ad : Nat → Nat} {M M' : xM} {als als' ast ast' : List xV} {pc' nL : Nat}
theorem xRel.n0 (hR : xRelT T G ad M H) {r t : Nat} (h : (M.2.2.2.1 r).1 = t) (ht : t ≠ 0) : r ≠ 0 := by
  intro q
  subst q
  have := (hR.2.2.2.2.2.2.2.2 0 (t_low T 0).1).1
  rw [this] at h
  exact ht h.symm
theorem xRel.nlt (hR : xRelT T G ad M H) {r t : Nat} (h : (M.2.2.2.1 r).1 = t) (ht : t ≠ 0) : r < M.2.2.2.2.1 := Nat.lt_of_not_le fun q => ht (by rw [← h, hR.2.2.2.2.2.2.2.1 r q])
theorem xRel.s26 (hT : xOK T) (hR : xRelT T G ad M H) {r : Nat} (h : (M.2.2.2.1 r).1 = 26) : ∃ i, i < tnS T ∧ r = 3 + i ∧ ad r = G.2.2.2.2.2.1 i ∧ (M.2.2.2.1 r).2 = (tlen T).getD i 0 ∧ ∀ k, M.1 r k = tV0 T G.2.2.2.1.2.2 r k := by
  have hrn := hR.nlt h (by decide)
  have hcl := hT.1.1
  have hrS : r < tS T := Nat.lt_of_not_le fun q => by
    have := (hR.2.2.2.2.2.2.1 r q hrn).1
    rw [h] at this
    rcases this with ⟨-, h⟩ | h | h | h | h | h <;> omega
  obtain ⟨g1, g2, g3⟩ := hR.2.2.2.2.2.2.2.2 r hrS
  have hr : ¬ r = 0 ∧ ¬ r = 1 ∧ ¬ r = 2 := by
    rw [g1] at h
    unfold tK0 at h
    refine ⟨fun q => ?_, fun q => ?_, fun q => ?_⟩ <;> (subst q; simp at h)
  have hS : r < 3 + tnS T := hrS
  refine ⟨r - 3, by omega, by omega, ?_, ?_, g2⟩
  · rw [g3]
    unfold tad0
    rw [if_neg hr.2.1, if_neg hr.2.2]
  · rw [g1]
    unfold tK0
    rw [if_neg hr.1, if_neg hr.2.1, if_neg hr.2.2]
theorem xRel.s21 (hT : xOK T) (hR : xRelT T G ad M H) {r : Nat} (h : (M.2.2.2.1 r).1 = 21) : r = 1 ∨ r = 2 := by
  have hrn := hR.nlt h (by decide)
  have hcl := hT.1.1
  have hrS : r < tS T := Nat.lt_of_not_le fun q => by
    have := (hR.2.2.2.2.2.2.1 r q hrn).1
    rw [h] at this
    rcases this with ⟨-, h⟩ | h | h | h | h | h <;> omega
  obtain ⟨g1, g2, g3⟩ := hR.2.2.2.2.2.2.2.2 r hrS
  rw [g1] at h
  unfold tK0 at h
  split at h
  · cases h
  · split at h
    · rename_i h9; exact Or.inl h9
    · split at h
      · rename_i h9; exact Or.inr h9
      · cases h
theorem xixF_congr {V V' : xF} {a : Nat} {c : Int} (h : ∀ k, V a k = V' a k) : ∀ (n k : Nat), xixF V a c n k = xixF V' a c n k := by
  intro n
  induction n with
  | zero => intro k; rfl
  | succ n ih => intro k; unfold xixF; rw [h, ih]
theorem q_ldcwS {cc : ByteArray} {rest : List Value} (hexec : p.tables.exec = Jvm.exec) (hb : c.code = cc) {own tx : String} {index q : Nat} (hown : s.vm.findClass own = some m.cls) (hZ : vk_R own index tx q s) (hdg : decode cc pc = .ok (.ldc_w index, 3))
    (k : W p l e R s m args below meth c H locs cells slots Q (F0 m (pc + 3) ls (.ref q :: rest))) : W p l e R s m args below meth c H locs cells slots Q (F0 m pc ls rest) := by
  intro T hT X
  obtain ⟨t, a1, b1⟩ := k T hT X
  refine ⟨t, ?_, b1⟩
  obtain ⟨k0, cf, i0, a0, hk, hcf, hcp, -, hr, hev'⟩ := Cond.stringRef_spec hown hZ.1
  cases hZ.2.symm.trans hev'
  obtain ⟨k', hk', he⟩ := X.warmed.alike.2.2 _ _ hk
  have hr' : k'.resolved[index]? = some (some (.string q)) := by
    rcases X.warmed.entry hk hk' index with h | ⟨h, -⟩
    · rw [h]; exact hr
    · rw [hr] at h; cases h
  have hdg' : decode c.code (F0 m pc ls rest).pc = .ok (.ldc_w index, 3) := by rw [hb]; exact hdg
  jvm_step X.here [hexec, hdg', ldc_w.wp_string (e := e) (s := T) (f := F0 m pc ls rest) X.here.top hk' (by rw [he]; exact hcf) hcp hr']
  exact a1
set_option maxHeartbeats 4000000 in
/-- branches, the heap, makings -/
theorem xs_mem (hT : xOK T) (hI : xIn T G l) {ins : Instr} {len a b c0 : Nat} {z : Int} {g : List Prop} (hs : xstep (pc, ins, len, a, b, c0, z) als ast M = some (.inl (pc', als', ast', M'), g)) (hg : xall g) (hL : xLk T y (pc, ins, len, a, b, c0, z))
    (hC : xCx T l y p s m args meth c) (hGr : xGr T G s s.heap) (hA : G.2.2.1 ≤ s.heap.size) (hRf : 8 ≤ R.frames) (hRl : 512 ≤ R.locals) (hR : xRelT T G ad M H) (hl : xRL ad M.2.2.2.2.1 nL ls als) (hnL : nL = c.maxLocals) (hst : xRS ad M.2.2.2.2.1 st ast) (hS : va_S (xA G) s.heap H locs)
    (hrc : cells + M'.2.2.2.2.2.1 ≤ M.2.2.2.2.2.1 + R.cells) (hrs : slots + M'.2.2.2.2.2.2 ≤ M.2.2.2.2.2.2 + R.slots) (hc0 : cells ≤ R.cells) (hs0 : slots ≤ R.slots)
    (kk : xKK T G l p e R s m args below meth c Q nL ad M cells slots pc' als' ast' M')
    (hi : xIsMem ins) : W p l e R s m args below meth c H locs cells slots Q (F0 m pc ls st) := by
  have hlow := t_low T G.2.2.2.1.2.1
  have hn0 : 0 < M.2.2.2.2.1 := Nat.lt_of_lt_of_le (t_low T 0).1 hR.1
  obtain ⟨hx, hb, hr, hown, hts, hlocks, hml, htab, hname, htr⟩ := hC
  obtain ⟨hd, hL⟩ := hL
  dsimp only at hd
  have hD : decode c.code pc = .ok (ins, len) := by rw [hb]; exact hd
  have hmls : c.maxLocals = ls.size := by rw [hl.2.1]; exact hnL.symm
  cases ins <;> first | exact False.elim hi | skip
  case goto o =>
    obtain ⟨e1, e2⟩ := hL
    subst e1
    obtain ⟨e3, -⟩ := q_nx hs
    cases e3
    exact lv_goto hx rfl hD e2 (kk.same hR hS hl hst)
  case ifCond q o =>
    obtain ⟨e1, e2⟩ := hL
    subst e1
    simp only [xstep] at hs
    split at hs
    · obtain ⟨e3, -⟩ := q_nx hs
      cases e3
      obtain ⟨w, vs, rfl, ew, hst2⟩ := hst.i1
      have k2 : ∀ t, xbrc (pc + 3) a q _ 0 = t → W p l e R s m args below meth c H locs cells slots Q (F0 m t ls vs) := fun t h => by rw [← h]; exact kk.same hR hS hl hst2
      cases q
      · exact lv_if_eq hx rfl hD e2 (fun h => k2 _ (by subst ew; simp only [ne_eq, o_eq, o_lt, o_le, o_0, Decidable.not_not] at h; simp only [xbrc]; first | exact if_pos h | exact if_neg h | exact if_pos (by omega) | exact if_neg (by omega))) (fun h => k2 _ (by subst ew; simp only [ne_eq, o_eq, o_lt, o_le, o_0, Decidable.not_not] at h; simp only [xbrc]; first | exact if_pos h | exact if_neg h | exact if_pos (by omega) | exact if_neg (by omega)))
      · exact lv_if_ne hx rfl hD e2 (fun h => k2 _ (by subst ew; simp only [ne_eq, o_eq, o_lt, o_le, o_0, Decidable.not_not] at h; simp only [xbrc]; first | exact if_pos h | exact if_neg h | exact if_pos (by omega) | exact if_neg (by omega))) (fun h => k2 _ (by subst ew; simp only [ne_eq, o_eq, o_lt, o_le, o_0, Decidable.not_not] at h; simp only [xbrc]; first | exact if_pos h | exact if_neg h | exact if_pos (by omega) | exact if_neg (by omega)))
      · exact lv_if_lt hx rfl hD e2 (fun h => k2 _ (by subst ew; simp only [ne_eq, o_eq, o_lt, o_le, o_0, Decidable.not_not] at h; simp only [xbrc]; first | exact if_pos h | exact if_neg h | exact if_pos (by omega) | exact if_neg (by omega))) (fun h => k2 _ (by subst ew; simp only [ne_eq, o_eq, o_lt, o_le, o_0, Decidable.not_not] at h; simp only [xbrc]; first | exact if_pos h | exact if_neg h | exact if_pos (by omega) | exact if_neg (by omega)))
      · exact lv_if_ge hx rfl hD e2 (fun h => k2 _ (by subst ew; simp only [ne_eq, o_eq, o_lt, o_le, o_0, Decidable.not_not] at h; simp only [xbrc]; first | exact if_pos h | exact if_neg h | exact if_pos (by omega) | exact if_neg (by omega))) (fun h => k2 _ (by subst ew; simp only [ne_eq, o_eq, o_lt, o_le, o_0, Decidable.not_not] at h; simp only [xbrc]; first | exact if_pos h | exact if_neg h | exact if_pos (by omega) | exact if_neg (by omega)))
      · exact lv_if_gt hx rfl hD e2 (fun h => k2 _ (by subst ew; simp only [ne_eq, o_eq, o_lt, o_le, o_0, Decidable.not_not] at h; simp only [xbrc]; first | exact if_pos h | exact if_neg h | exact if_pos (by omega) | exact if_neg (by omega))) (fun h => k2 _ (by subst ew; simp only [ne_eq, o_eq, o_lt, o_le, o_0, Decidable.not_not] at h; simp only [xbrc]; first | exact if_pos h | exact if_neg h | exact if_pos (by omega) | exact if_neg (by omega)))
      · exact lv_if_le hx rfl hD e2 (fun h => k2 _ (by subst ew; simp only [ne_eq, o_eq, o_lt, o_le, o_0, Decidable.not_not] at h; simp only [xbrc]; first | exact if_pos h | exact if_neg h | exact if_pos (by omega) | exact if_neg (by omega))) (fun h => k2 _ (by subst ew; simp only [ne_eq, o_eq, o_lt, o_le, o_0, Decidable.not_not] at h; simp only [xbrc]; first | exact if_pos h | exact if_neg h | exact if_pos (by omega) | exact if_neg (by omega)))
    · cases hs
  case if_icmp q o =>
    obtain ⟨e1, e2⟩ := hL
    subst e1
    simp only [xstep] at hs
    split at hs
    · obtain ⟨e3, -⟩ := q_nx hs
      cases e3
      obtain ⟨wy, vs, rfl, ey, hst2⟩ := hst.i1
      obtain ⟨wx, vs2, rfl, ex, hst3⟩ := hst2.i1
      have k2 : ∀ t, xbrc (pc + 3) a q _ _ = t → W p l e R s m args below meth c H locs cells slots Q (F0 m t ls vs2) := fun t h => by rw [← h]; exact kk.same hR hS hl hst3
      cases q
      · exact lv_icmp_eq hx rfl hD e2 (fun h => k2 _ (by subst ex; subst ey; simp only [ne_eq, o_eq, o_lt, o_le, Decidable.not_not] at h; simp only [xbrc]; first | exact if_pos h | exact if_neg h | exact if_pos (by omega) | exact if_neg (by omega))) (fun h => k2 _ (by subst ex; subst ey; simp only [ne_eq, o_eq, o_lt, o_le, Decidable.not_not] at h; simp only [xbrc]; first | exact if_pos h | exact if_neg h | exact if_pos (by omega) | exact if_neg (by omega)))
      · exact lv_icmp_ne hx rfl hD e2 (fun h => k2 _ (by subst ex; subst ey; simp only [ne_eq, o_eq, o_lt, o_le, Decidable.not_not] at h; simp only [xbrc]; first | exact if_pos h | exact if_neg h | exact if_pos (by omega) | exact if_neg (by omega))) (fun h => k2 _ (by subst ex; subst ey; simp only [ne_eq, o_eq, o_lt, o_le, Decidable.not_not] at h; simp only [xbrc]; first | exact if_pos h | exact if_neg h | exact if_pos (by omega) | exact if_neg (by omega)))
      · exact lv_icmp_lt hx rfl hD e2 (fun h => k2 _ (by subst ex; subst ey; simp only [ne_eq, o_eq, o_lt, o_le, Decidable.not_not] at h; simp only [xbrc]; first | exact if_pos h | exact if_neg h | exact if_pos (by omega) | exact if_neg (by omega))) (fun h => k2 _ (by subst ex; subst ey; simp only [ne_eq, o_eq, o_lt, o_le, Decidable.not_not] at h; simp only [xbrc]; first | exact if_pos h | exact if_neg h | exact if_pos (by omega) | exact if_neg (by omega)))
      · exact lv_icmp_ge hx rfl hD e2 (fun h => k2 _ (by subst ex; subst ey; simp only [ne_eq, o_eq, o_lt, o_le, Decidable.not_not] at h; simp only [xbrc]; first | exact if_pos h | exact if_neg h | exact if_pos (by omega) | exact if_neg (by omega))) (fun h => k2 _ (by subst ex; subst ey; simp only [ne_eq, o_eq, o_lt, o_le, Decidable.not_not] at h; simp only [xbrc]; first | exact if_pos h | exact if_neg h | exact if_pos (by omega) | exact if_neg (by omega)))
      · exact lv_icmp_gt hx rfl hD e2 (fun h => k2 _ (by subst ex; subst ey; simp only [ne_eq, o_eq, o_lt, o_le, Decidable.not_not] at h; simp only [xbrc]; first | exact if_pos h | exact if_neg h | exact if_pos (by omega) | exact if_neg (by omega))) (fun h => k2 _ (by subst ex; subst ey; simp only [ne_eq, o_eq, o_lt, o_le, Decidable.not_not] at h; simp only [xbrc]; first | exact if_pos h | exact if_neg h | exact if_pos (by omega) | exact if_neg (by omega)))
      · exact lv_icmp_le hx rfl hD e2 (fun h => k2 _ (by subst ex; subst ey; simp only [ne_eq, o_eq, o_lt, o_le, Decidable.not_not] at h; simp only [xbrc]; first | exact if_pos h | exact if_neg h | exact if_pos (by omega) | exact if_neg (by omega))) (fun h => k2 _ (by subst ex; subst ey; simp only [ne_eq, o_eq, o_lt, o_le, Decidable.not_not] at h; simp only [xbrc]; first | exact if_pos h | exact if_neg h | exact if_pos (by omega) | exact if_neg (by omega)))
    · cases hs
  case tableswitch d lo hi9 offs =>
    obtain ⟨e1, e2, e4⟩ := hL
    simp only [xstep] at hs
    split at hs
    · obtain ⟨e3, -⟩ := q_nx hs
      cases e3
      obtain ⟨w, vs, rfl, ew, hst2⟩ := hst.i1
      have k2 : ∀ t, xsw lo (offs.toList.map (fun o => ((pc : Int) + o).toNat)) ((pc : Int) + d).toNat _ = t → W p l e R s m args below meth c H locs cells slots Q (F0 m t ls vs) := fun t h => by rw [← h]; exact kk.same hR hS hl hst2
      by_cases h1 : w.toInt < lo
      · exact lv_tableOut (tgt := ((pc : Int) + d).toNat) hx rfl hD (Or.inl h1) (by omega) (k2 _ (by rw [← ew]; unfold xsw; rw [if_pos h1]))
      · by_cases h2 : hi9 < w.toInt
        · refine lv_tableOut (tgt := ((pc : Int) + d).toNat) hx rfl hD (Or.inr h2) (by omega) (k2 _ ?_)
          rw [← ew]; unfold xsw; rw [if_neg h1, List.getElem?_eq_none (by rw [List.length_map, Array.length_toList]; omega)]; rfl
        · have h3 : (w.toInt - lo).toNat < offs.size := by omega
          have h4 : offs[(w.toInt - lo).toNat]? = some offs[(w.toInt - lo).toNat] := Array.getElem?_eq_getElem h3
          have h5 := e2 _ (Array.mem_toList_iff.mpr (Array.getElem_mem h3))
          refine lv_tableIn (tgt := ((pc : Int) + offs[(w.toInt - lo).toNat]).toNat) hx rfl hD h1 h2 h4 (by omega) (k2 _ ?_)
          rw [← ew]; unfold xsw; rw [if_neg h1, List.getElem?_map, Array.getElem?_toList, h4]; rfl
    · cases hs
  case ldc i =>
    obtain ⟨e1, hL⟩ := hL
    subst e1
    obtain ⟨e3, -⟩ := q_nx hs
    cases e3
    rcases hL with ⟨h0, e2, e4⟩ | ⟨h1, k, tx, e2, e4⟩
    · subst h0
      exact lv_ldc (v := Int32.ofInt z) hx rfl hown (hts _ e4) hD (kk.same hR hS hl (hst.i (i32_of e2)))
    · subst h1; subst e2
      obtain ⟨g1, g2⟩ := hGr.2.2.2.2.1 _ e4
      obtain ⟨k1, -, k3⟩ := hR.2.2.2.2.2.2.2.2 (3 + k) (show 3 + k < 3 + tnS T by have : k < tnS T := g1; omega)
      have ea : ad (3 + k) = G.2.2.2.2.2.1 k := by rw [k3]; unfold tad0; rw [if_neg (by omega), if_neg (by omega), Nat.add_sub_cancel_left]
      have e5 : (M.2.2.2.1 (3 + k)).1 = 26 := by rw [k1]; unfold tK0; rw [if_neg (by omega), if_neg (by omega), if_neg (by omega)]
      refine va_ldcS (q := G.2.2.2.2.2.1 k) hx rfl hown g2 hD ?_
      rw [← ea]
      exact kk.same hR hS hl (hst.r (by omega) (hR.nlt e5 (by decide)))
  case ldc_w i =>
    obtain ⟨e1, hL⟩ := hL
    subst e1
    obtain ⟨e3, -⟩ := q_nx hs
    cases e3
    rcases hL with ⟨h0, e2, e4⟩ | ⟨h1, k, tx, e2, e4⟩
    · subst h0
      exact lv_ldcw (v := Int32.ofInt z) hx rfl hown (hts _ e4) hD (kk.same hR hS hl (hst.i (i32_of e2)))
    · subst h1; subst e2
      obtain ⟨g1, g2⟩ := hGr.2.2.2.2.1 _ e4
      obtain ⟨k1, -, k3⟩ := hR.2.2.2.2.2.2.2.2 (3 + k) (show 3 + k < 3 + tnS T by have : k < tnS T := g1; omega)
      have ea : ad (3 + k) = G.2.2.2.2.2.1 k := by rw [k3]; unfold tad0; rw [if_neg (by omega), if_neg (by omega), Nat.add_sub_cancel_left]
      have e5 : (M.2.2.2.1 (3 + k)).1 = 26 := by rw [k1]; unfold tK0; rw [if_neg (by omega), if_neg (by omega), if_neg (by omega)]
      refine q_ldcwS (q := G.2.2.2.2.2.1 k) hx rfl hown g2 hD ?_
      rw [← ea]
      exact kk.same hR hS hl (hst.r (by omega) (hR.nlt e5 (by decide)))
  case getstatic i =>
    obtain ⟨e1, e2, e4⟩ := hL
    subst e1; subst e2
    obtain ⟨e3, -⟩ := q_nx hs
    cases e3
    obtain ⟨k1, -, k3⟩ := hR.2.2.2.2.2.2.2.2 2 (show 2 < 3 + tnS T by omega)
    have ea : ad 2 = G.2.2.2.2.1 := by rw [k3]; rfl
    have e5 : (M.2.2.2.1 2).1 = 21 := by rw [k1]; rfl
    refine va_gets (v := .ref G.2.2.2.2.1) hx rfl hGr.2.2.1.1 hS hown (hts _ e4) (fun _ h => h) hD ?_
    rw [← ea]
    exact kk.same hR hS hl (hst.r (by omega) (hR.nlt e5 (by decide)))
  case getfield i =>
    obtain ⟨e1, cn, C, F, N, ea, hc, hbN, hd1, hl1, hk⟩ := hL
    subst e1
    simp only [xstep] at hs
    split at hs
    · rename_i r t
      have main : ∀ v x, (M.2.2.2.1 r).1 = a → xfv ad M r b (xfk (F b).2.2.1) = v → xRV ad M.2.2.2.2.1 v x → (∀ ls' st', xRL ad M.2.2.2.2.1 nL ls' als → xRS ad M.2.2.2.2.1 st' (x :: t) → W p l e R s m args below meth c H locs cells slots Q (F0 m (pc + 3) ls' st')) → W p l e R s m args below meth c H locs cells slots Q (F0 m pc ls st) := by
        intro v x ht hv hx9 kx
        have h0 := hR.n0 ht (by omega)
        obtain ⟨vs, rfl, hrn, hst2⟩ := hst.r1 h0
        refine m_getf hx rfl hts hT.1 hown hGr.1 hlow hR hc hbN hd1 hl1 (by rw [ht, ea]) hD ?_
        rw [hv]
        exact kx _ _ hl ⟨hx9, hst2⟩
      rcases c0 with _ | _ | c1 <;> (try dsimp only at hs)
      · obtain ⟨e3, e6⟩ := q_nx hs
        cases e3; subst e6
        have hk0 : xfk (F b).2.2.1 = 0 ∨ xfk (F b).2.2.1 = 3 := by
          split at hk
          · rename_i h; exact Or.inr h
          · exact Or.inl hk.symm
        refine main (.int (Int32.ofInt (M.1 r b))) (vi (M.1 r b)) hg ?_ ⟨_, rfl, i32_of (hR.2.2.2.1 r b)⟩ (fun ls' st' h1 h2 => kk.same hR hS h1 h2)
        unfold xfv
        rcases hk0 with h | h <;> rw [h] <;> rfl
      · obtain ⟨e3, e6⟩ := q_nx hs
        cases e3; subst e6
        have hk0 : xfk (F b).2.2.1 = 1 := by
          split at hk
          · cases hk
          · exact hk.symm
        refine main (.long (Int64.ofInt (M.2.1 r b))) (vl (M.2.1 r b)) hg ?_ ⟨_, rfl, i64_of (hR.2.2.2.2.1 r b)⟩ (fun ls' st' h1 h2 => kk.same hR hS h1 h2)
        unfold xfv
        rw [hk0]; rfl
      · have hn0 : ¬ c1 + 1 + 1 = 0 := by omega
        have hn1 : ¬ c1 + 1 + 1 = 1 := by omega
        obtain ⟨e3, e6⟩ := q_nx hs
        cases e3; subst e6
        obtain ⟨hg1, hg2⟩ := hg
        have hk0 : xfk (F b).2.2.1 = 2 := by
          have hx4 : xfk (F b).2.2.1 = 0 ∨ xfk (F b).2.2.1 = 3 ∨ xfk (F b).2.2.1 = 1 ∨ xfk (F b).2.2.1 = 2 := by
            unfold xfk
            repeat' split
            all_goals simp
          split at hk
          · exact absurd hk hn0
          · rcases hx4 with h | h | h | h
            · exact absurd (hk.trans h) hn0
            · contradiction
            · exact absurd (hk.trans h) hn1
            · exact h
        refine main (.ref (ad (M.2.2.1 r b))) (vr (M.2.2.1 r b)) hg1 ?_ (Or.inr ⟨hg2, hR.2.2.2.2.2.1 r b, rfl⟩) (fun ls' st' h1 h2 => kk.same hR hS h1 h2)
        unfold xfv xref
        rw [hk0, if_neg (by decide), if_pos rfl, if_neg hg2]
    · cases hs
  case putfield i =>
    obtain ⟨e1, cn, C, F, N, ea, hc, hbN, hd1, hl1, hk, hfin⟩ := hL
    subst e1
    have hfin' : (F b).2.2.2 = true → meth.name = "<init>" ∧ (tnm T y).cls = C := fun h => ⟨by rw [hname]; exact (hfin h).1, (hfin h).2⟩
    simp only [xstep] at hs
    split at hs
    · rename_i x r t
      obtain ⟨e3, e6⟩ := q_nx hs
      cases e3; subst e6
      have h0 := hR.n0 hg (by omega)
      obtain ⟨w, vs, rfl, ew, hst2⟩ := hst.i1
      obtain ⟨vs2, rfl, hrn, hst3⟩ := hst2.r1 h0
      refine m_putf (M' := (up2 M.1 r b x, M.2)) hx rfl hts hT.1 hown hGr.1 hlow hR hS hc hbN hd1 hl1 hfin' (by rw [hg, ea]) hD (v := .int w) (fun ty hty => ?_) rfl (fun b' j hb' => up2_ne (fun q => hb' q.1)) (fun _ _ _ => rfl) (fun _ _ _ => rfl) (r32_up2 hR.2.2.2.1 (by rw [← ew]; exact r32_of w) r) (hR.2.2.2.2.1 r) (hR.2.2.2.2.2.1 r) (fun j => ?_) (fun H1 locs1 hR1 hS1 => kk.put rfl hR1 hS1 hl hst3)
      · rw [← hk] at hty
        cases ty <;> first | exact ⟨rfl, rfl⟩ | (simp [xtyk] at hty)
      · by_cases hj : j = b
        · subst hj
          rw [if_pos rfl]
          unfold xfv
          rw [← hk, if_neg (by decide), if_neg (by decide)]
          show Value.int (Int32.ofInt (up2 M.1 r j x r j)) = _
          rw [up2_eq, i32_eq ew]
        · rw [if_neg hj]
          unfold xfv
          show (if _ then _ else if _ then _ else Value.int (Int32.ofInt (up2 M.1 r b x r j))) = _
          rw [up2_ne (fun q => hj q.2)]
    · rename_i x r t
      obtain ⟨e3, e6⟩ := q_nx hs
      cases e3; subst e6
      have h0 := hR.n0 hg (by omega)
      obtain ⟨w, vs, rfl, ew, hst2⟩ := hst.l1
      obtain ⟨vs2, rfl, hrn, hst3⟩ := hst2.r1 h0
      refine m_putf (M' := (M.1, up2 M.2.1 r b x, M.2.2)) hx rfl hts hT.1 hown hGr.1 hlow hR hS hc hbN hd1 hl1 hfin' (by rw [hg, ea]) hD (v := .long w) (fun ty hty => ?_) rfl (fun _ _ _ => rfl) (fun b' j hb' => up2_ne (fun q => hb' q.1)) (fun _ _ _ => rfl) (hR.2.2.2.1 r) (r64_up2 hR.2.2.2.2.1 (by rw [← ew]; exact r64_of w) r) (hR.2.2.2.2.2.1 r) (fun j => ?_) (fun H1 locs1 hR1 hS1 => kk.put rfl hR1 hS1 hl hst3)
      · rw [← hk] at hty
        cases ty <;> first | exact ⟨rfl, rfl⟩ | (simp [xtyk] at hty)
      · by_cases hj : j = b
        · subst hj
          rw [if_pos rfl]
          unfold xfv
          rw [← hk, if_pos rfl]
          show Value.long (Int64.ofInt (up2 M.2.1 r j x r j)) = _
          rw [up2_eq, i64_eq ew]
        · rw [if_neg hj]
          unfold xfv
          show (if _ then Value.long (Int64.ofInt (up2 M.2.1 r b x r j)) else _) = _
          rw [up2_ne (fun q => hj q.2)]
    · rename_i x r t
      obtain ⟨e3, e6⟩ := q_nx hs
      cases e3; subst e6
      obtain ⟨hg1, hg2⟩ := hg
      have h0 := hR.n0 hg1 (by omega)
      obtain ⟨vs, rfl, hxn, hst2⟩ := hst.r1 hg2
      obtain ⟨vs2, rfl, hrn, hst3⟩ := hst2.r1 h0
      refine m_putf (M' := (M.1, M.2.1, up2 M.2.2.1 r b x, M.2.2.2)) hx rfl hts hT.1 hown hGr.1 hlow hR hS hc hbN hd1 hl1 hfin' (by rw [hg1, ea]) hD (v := .ref (ad x)) (fun ty hty => fits_ref ty (by rw [hty, ← hk]) _) rfl (fun _ _ _ => rfl) (fun _ _ _ => rfl) (fun b' j hb' => up2_ne (fun q => hb' q.1)) (hR.2.2.2.1 r) (hR.2.2.2.2.1 r) (fun j => ?_) (fun j => ?_) (fun H1 locs1 hR1 hS1 => kk.put rfl hR1 hS1 hl hst3)
      · show up2 M.2.2.1 r b x r j < _
        unfold up2
        split
        · exact hxn
        · exact hR.2.2.2.2.2.1 r j
      · by_cases hj : j = b
        · subst hj
          rw [if_pos rfl]
          unfold xfv
          rw [← hk, if_neg (by decide), if_pos rfl]
          show xref ad (up2 M.2.2.1 r j x r j) = _
          rw [up2_eq, xref, if_neg hg2]
        · rw [if_neg hj]
          unfold xfv
          show (if _ then _ else if _ then xref ad (up2 M.2.2.1 r b x r j) else _) = _
          rw [up2_ne (fun q => hj q.2)]
    · rename_i x r t
      obtain ⟨e3, e6⟩ := q_nx hs
      cases e3; subst e6
      obtain ⟨hg1, hg2⟩ := hg
      have h0 := hR.n0 hg1 (by omega)
      obtain ⟨w, vs, rfl, ew, hst2⟩ := hst.i1
      obtain ⟨vs2, rfl, hrn, hst3⟩ := hst2.r1 h0
      refine m_putf (M' := (up2 M.1 r b x, M.2)) hx rfl hts hT.1 hown hGr.1 hlow hR hS hc hbN hd1 hl1 hfin' (by rw [hg1, ea]) hD (v := .int w) (fun ty hty => ?_) rfl (fun b' j hb' => up2_ne (fun q => hb' q.1)) (fun _ _ _ => rfl) (fun _ _ _ => rfl) (r32_up2 hR.2.2.2.1 (by rw [← ew]; exact r32_of w) r) (hR.2.2.2.2.1 r) (hR.2.2.2.2.2.1 r) (fun j => ?_) (fun H1 locs1 hR1 hS1 => kk.put rfl hR1 hS1 hl hst3)
      · rw [← hk] at hty
        cases ty <;> first | exact fits_bool (by rw [ew]; exact hg2) | (simp [xtyk] at hty)
      · by_cases hj : j = b
        · subst hj
          rw [if_pos rfl]
          unfold xfv
          rw [← hk, if_neg (by decide), if_neg (by decide)]
          show Value.int (Int32.ofInt (up2 M.1 r j x r j)) = _
          rw [up2_eq, i32_eq ew]
        · rw [if_neg hj]
          unfold xfv
          show (if _ then _ else if _ then _ else Value.int (Int32.ofInt (up2 M.1 r b x r j))) = _
          rw [up2_ne (fun q => hj q.2)]
    · cases hs
  case iaload =>
    have e1 : len = 1 := hL
    subst e1
    simp only [xstep] at hs
    split at hs
    · rename_i i r t
      obtain ⟨e3, e6⟩ := q_nx hs
      cases e3; subst e6
      obtain ⟨hg1, hg2⟩ := hg
      obtain ⟨w, vs, rfl, ew, hst2⟩ := hst.i1
      have h0 := hR.n0 (r := r) rfl (by omega)
      obtain ⟨vs2, rfl, hrn, hst3⟩ := hst2.r1 h0
      exact m_ialdT hT.1.1 hx hGr hR hS hg1 ew hg2 hD (fun w2 e2 => kk.same hR hS hl (hst3.i e2))
    · cases hs
  case iastore =>
    have e1 : len = 1 := hL
    subst e1
    simp only [xstep] at hs
    split at hs
    · obtain ⟨e3, e6⟩ := q_nx hs
      cases e3; subst e6
      obtain ⟨hg1, hg2⟩ := hg
      obtain ⟨wx, vs0, rfl, ex, hst1⟩ := hst.i1
      obtain ⟨w, vs, rfl, ew, hst2⟩ := hst1.i1
      have h0 := hR.n0 hg1 (by omega)
      obtain ⟨vs2, rfl, hrn, hst3⟩ := hst2.r1 h0
      refine m_iast hx rfl hGr.1 hlow hR hS hg1 (o_in ew hg2) hD (fun H1 locs1 hR1 hS1 => ?_)
      rw [o_clamp ew, ex] at hR1
      exact kk.put rfl hR1 hS1 hl hst3
    · cases hs
  case laload =>
    have e1 : len = 1 := hL
    subst e1
    simp only [xstep] at hs
    split at hs
    · obtain ⟨e3, e6⟩ := q_nx hs
      cases e3; subst e6
      obtain ⟨hg1, hg2⟩ := hg
      obtain ⟨w, vs, rfl, ew, hst2⟩ := hst.i1
      have h0 := hR.n0 hg1 (by omega)
      obtain ⟨vs2, rfl, hrn, hst3⟩ := hst2.r1 h0
      refine m_lald hx rfl hGr.1 hlow hR hg1 (o_in ew hg2) hD (kk.same hR hS hl (hst3.l ?_))
      rw [i64_of (hR.2.2.2.2.1 _ _), o_clamp ew]
    · cases hs
  case lastore =>
    have e1 : len = 1 := hL
    subst e1
    simp only [xstep] at hs
    split at hs
    · obtain ⟨e3, e6⟩ := q_nx hs
      cases e3; subst e6
      obtain ⟨hg1, hg2⟩ := hg
      obtain ⟨wx, vs0, rfl, ex, hst1⟩ := hst.l1
      obtain ⟨w, vs, rfl, ew, hst2⟩ := hst1.i1
      have h0 := hR.n0 hg1 (by omega)
      obtain ⟨vs2, rfl, hrn, hst3⟩ := hst2.r1 h0
      refine m_last hx rfl hGr.1 hlow hR hS hg1 (o_in ew hg2) hD (fun H1 locs1 hR1 hS1 => ?_)
      rw [o_clamp ew, ex] at hR1
      exact kk.put rfl hR1 hS1 hl hst3
    · cases hs
  case baload =>
    have e1 : len = 1 := hL
    subst e1
    simp only [xstep] at hs
    split at hs
    · obtain ⟨e3, e6⟩ := q_nx hs
      cases e3; subst e6
      obtain ⟨hg1, hg2⟩ := hg
      obtain ⟨w, vs, rfl, ew, hst2⟩ := hst.i1
      have h0 := hR.n0 hg1 (by omega)
      obtain ⟨vs2, rfl, hrn, hst3⟩ := hst2.r1 h0
      refine m_zald hx rfl hGr.1 hlow hR hg1 (o_in ew hg2) hD (kk.same hR hS hl (hst3.i ?_))
      rw [i32_of (hR.2.2.2.1 _ _), o_clamp ew]
    · cases hs
  case bastore =>
    have e1 : len = 1 := hL
    subst e1
    simp only [xstep] at hs
    split at hs
    · obtain ⟨e3, e6⟩ := q_nx hs
      cases e3; subst e6
      obtain ⟨hg1, hg2, hg3⟩ := hg
      obtain ⟨wx, vs0, rfl, ex, hst1⟩ := hst.i1
      obtain ⟨w, vs, rfl, ew, hst2⟩ := hst1.i1
      have h0 := hR.n0 hg1 (by omega)
      obtain ⟨vs2, rfl, hrn, hst3⟩ := hst2.r1 h0
      refine m_zast hx rfl hGr.1 hlow hR hS hg1 (o_in ew hg2) (by rw [ex]; exact hg3) hD (fun H1 locs1 hR1 hS1 => ?_)
      rw [o_clamp ew, ex] at hR1
      exact kk.put rfl hR1 hS1 hl hst3
    · cases hs
  case aaload =>
    have e1 : len = 1 := hL
    subst e1
    simp only [xstep] at hs
    split at hs
    · rename_i i r t
      obtain ⟨e3, e6⟩ := q_nx hs
      cases e3; subst e6
      obtain ⟨hg1, hg2, hg3⟩ := hg
      obtain ⟨w, vs, rfl, ew, hst2⟩ := hst.i1
      have h0 := hR.n0 (r := r) rfl (by omega)
      obtain ⟨vs2, rfl, hrn, hst3⟩ := hst2.r1 h0
      refine m_aald hx rfl hGr.1 hlow hR rfl (by omega) (o_in ew hg2) hD ?_
      rw [o_clamp ew, xref, if_neg hg3]
      exact kk.same hR hS hl (hst3.r hg3 (hR.2.2.2.2.2.1 _ _))
    · cases hs
  case aastore =>
    obtain ⟨e1, cn, F, N, ea, hc⟩ := hL
    subst e1
    simp only [xstep] at hs
    split at hs
    · obtain ⟨e3, e6⟩ := q_nx hs
      cases e3; subst e6
      obtain ⟨hg1, hg2, hg3⟩ := hg
      have hx0 := hR.n0 hg3 (by omega)
      obtain ⟨vs0, rfl, hxn, hst1⟩ := hst.r1 hx0
      obtain ⟨w, vs, rfl, ew, hst2⟩ := hst1.i1
      have h0 := hR.n0 hg1 (by omega)
      obtain ⟨vs2, rfl, hrn, hst3⟩ := hst2.r1 h0
      refine m_aast hx rfl hT.1 hGr.1 hlow hR hS hg1 hc (by rw [hg3, ea]) (o_in ew hg2) hD (fun H1 locs1 hR1 hS1 => ?_)
      rw [o_clamp ew] at hR1
      exact kk.put rfl hR1 hS1 hl hst3
    · cases hs
  case arraylength =>
    have e1 : len = 1 := hL
    subst e1
    simp only [xstep] at hs
    split at hs
    · rename_i r t
      obtain ⟨e3, e6⟩ := q_nx hs
      cases e3; subst e6
      have hg : 20 ≤ (M.2.2.2.1 r).1 ∧ (M.2.2.2.1 r).1 ≤ 25 := hg
      have h0 := hR.n0 (r := r) rfl (by omega)
      obtain ⟨vs2, rfl, hrn, hst3⟩ := hst.r1 h0
      by_cases h21 : (M.2.2.2.1 r).1 = 21
      · rcases xRel.s21 hT hR h21 with h | h
        · subst h
          obtain ⟨q1, q2, q3, q4⟩ := hGr.2.1
          obtain ⟨g1, -, g3⟩ := hR.2.2.2.2.2.2.2.2 1 (show 1 < 3 + tnS T by omega)
          have e1 : ad 1 = G.2.2.2.1.1 := by rw [g3]; rfl
          have e2 : (M.2.2.2.1 1).2 = G.2.2.2.1.2.1 := by rw [g1]; rfl
          rw [e1]
          refine va_slen (A := xA G) hx rfl q1 q2 q3 hS hD (kk.same hR hS hl (hst3.i ?_))
          rw [e2]
          exact nI_toInt q4
        · subst h
          obtain ⟨g1, -, g3⟩ := hR.2.2.2.2.2.2.2.2 2 (show 2 < 3 + tnS T by omega)
          have e1 : ad 2 = G.2.2.2.2.1 := by rw [g3]; rfl
          have e2 : (M.2.2.2.1 2).2 = 5 := by rw [g1]; rfl
          rw [e1]
          refine va_tlen (A := xA G) hx rfl hGr.2.2.1.2 hS rfl hD (kk.same hR hS hl (hst3.i ?_))
          rw [e2]
          rfl
      · refine m_alen hx rfl hGr.1 hlow hR hg.1 h21 hg.2 hD (kk.same hR hS hl (hst3.i ?_))
        obtain ⟨k1, k2⟩ := hR.made hlow (a := r) (by omega) h21 (by omega)
        exact nI_toInt (hR.2.2.2.2.2.2.1 r k1 k2).2
    · cases hs
  case new i =>
    rcases c0 with _ | c1
    · obtain ⟨e1, cn, C, F, ea, hc, w1, w2, w3⟩ := hL
      subst e1; subst ea
      obtain ⟨e3, e6⟩ := q_nx hs
      cases e3
      dsimp only at hrc hrs
      refine m_new hx rfl hts hT.1 hown hGr.1 hR hS hA hc w1 w2 w3 (by omega) (by omega) hD (fun q H1 hR1 hS1 => ?_)
      refine kk (up1 ad M.2.2.2.2.1 q) H1 locs (cells + 1) (slots + b) ls _ hR1 (hl.grow (Nat.le_succ _) (fun a ha => if_neg (by omega))) ⟨Or.inr ⟨?_, Nat.lt_succ_self _, ?_⟩, hst.grow (Nat.le_succ _) (fun a ha => if_neg (by omega))⟩ hS1 (fun a ha => if_neg (by omega)) (Nat.le_succ _) (by dsimp only; omega) (by dsimp only; omega)
      · exact Nat.ne_of_gt hn0
      · exact congrArg Value.ref (if_pos rfl).symm
    · simp only [xstep] at hs
      split at hs <;> cases hs
  case newarray t9 =>
    obtain ⟨e1, e2, w1⟩ := hL
    subst e1
    simp only [xstep] at hs
    split at hs
    · rename_i x t
      obtain ⟨e3, e6⟩ := q_nx hs
      cases e3; subst e6
      have hg : 0 ≤ x ∧ x ≤ 60000000 := hg
      obtain ⟨w, vs, rfl, ew, hst2⟩ := hst.i1
      subst ew
      dsimp only at hrc hrs
      refine m_newa hx rfl hts hGr.1 hR hS hA e2 w1 hg (by omega) (by omega) hD (fun q H1 hR1 hS1 => ?_)
      refine kk (up1 ad M.2.2.2.2.1 q) H1 locs (cells + 1) (slots + w.toInt.toNat) ls _ hR1 (hl.grow (Nat.le_succ _) (fun a ha => if_neg (by omega))) ⟨Or.inr ⟨?_, Nat.lt_succ_self _, ?_⟩, hst2.grow (Nat.le_succ _) (fun a ha => if_neg (by omega))⟩ hS1 (fun a ha => if_neg (by omega)) (Nat.le_succ _) (by dsimp only; omega) (by dsimp only; omega)
      · exact Nat.ne_of_gt hn0
      · exact congrArg Value.ref (if_pos rfl).symm
    · cases hs
  case anewarray i =>
    obtain ⟨e1, w1⟩ := hL
    subst e1
    simp only [xstep] at hs
    split at hs
    · rename_i x t
      obtain ⟨e3, e6⟩ := q_nx hs
      cases e3; subst e6
      have hg : 0 ≤ x ∧ x ≤ 60000000 := hg
      obtain ⟨w, vs, rfl, ew, hst2⟩ := hst.i1
      subst ew
      dsimp only at hrc hrs
      refine m_newq hx rfl hts hown hGr.2.2.2.2.2.2.2.1.1 hGr.1 hR hS hA w1 hg (by omega) (by omega) hD (fun q H1 hR1 hS1 => ?_)
      refine kk (up1 ad M.2.2.2.2.1 q) H1 locs (cells + 1) (slots + w.toInt.toNat) ls _ hR1 (hl.grow (Nat.le_succ _) (fun a ha => if_neg (by omega))) ⟨Or.inr ⟨?_, Nat.lt_succ_self _, ?_⟩, hst2.grow (Nat.le_succ _) (fun a ha => if_neg (by omega))⟩ hS1 (fun a ha => if_neg (by omega)) (Nat.le_succ _) (by dsimp only; omega) (by dsimp only; omega)
      · exact Nat.ne_of_gt hn0
      · exact congrArg Value.ref (if_pos rfl).symm
    · cases hs
  case multianewarray i d =>
    obtain ⟨e0, e1, w1, w2⟩ := hL
    subst e1; subst e0
    simp only [xstep] at hs
    split at hs
    · rename_i y9 x t
      obtain ⟨e3, e6⟩ := q_nx hs
      subst e6
      have hg : (0 ≤ x ∧ x ≤ 60000000) ∧ (0 ≤ y9 ∧ y9 ≤ 60000000) := hg
      obtain ⟨w, vs, rfl, ew, hst2⟩ := hst.i1
      obtain ⟨w2', vs2, rfl, ew2, hst3⟩ := hst2.i1
      subst ew; subst ew2
      have e3' := Sum.inl.inj e3
      obtain ⟨e7, e8, e9, eM⟩ := Prod.mk.inj e3' |>.imp_right (fun h => (Prod.mk.inj h).imp_right Prod.mk.inj)
      subst e7; subst e8; subst e9
      have eM1 := congrArg (fun q : xM => q.2.2.2.2.2.1) eM
      have eM2 := congrArg (fun q : xM => q.2.2.2.2.2.2) eM
      have eM3 := congrArg (fun q : xM => q.2.2.2.2.1) eM
      dsimp only at eM1 eM2 eM3
      refine m_mna hx rfl hts hown hGr.2.2.2.2.2.2.2.1.2 hGr.1 hR hS hA w1 w2 hg.1 hg.2 rfl rfl (by omega) (by omega) hD eM (fun q ad' H1 a1 a2 hR1 hS1 => ?_)
      refine kk ad' H1 locs _ _ ls _ hR1 (hl.grow (by omega) a1) ⟨Or.inr ⟨?_, by omega, by rw [a2]⟩, hst3.grow (by omega) a1⟩ hS1 a1 (by omega) (by omega) (by omega)
      exact Nat.ne_of_gt hn0
    · cases hs
  case invokestatic i =>
    obtain ⟨e1, hL⟩ := hL
    subst e1
    rcases b with _ | _ | b1
    · simp only [xstep] at hs
      cases hs
    · obtain ⟨w1, w2, w3, w4⟩ := hL
      simp only [xstep] at hs
      split at hs
      · rename_i n dp t sp r rs
        obtain ⟨e3, e6⟩ := q_nx hs
        cases e3; subst e6
        obtain ⟨hg1, hg2, hg3, hg4, hg5, hg6⟩ := hg
        obtain ⟨wn, v1, rfl, en, hst1⟩ := hst.i1
        obtain ⟨wd, v2, rfl, ed, hst2⟩ := hst1.i1
        obtain ⟨v3, rfl, htn, hst3⟩ := hst2.r1 (hR.n0 hg2 (by omega))
        obtain ⟨ws, v4, rfl, es, hst4⟩ := hst3.i1
        obtain ⟨v5, rfl, hrn, hst5⟩ := hst4.r1 (hR.n0 hg1 (by omega))
        subst en; subst ed; subst es
        refine m_copy hx rfl hmls hts hown hGr.1 hlow hR hS w1 w2 w3 w4 hg1 hg2 hg3.1 hg3.2.1 hg3.2.2 hg4 hg5 (by omega) ?_ hD (fun H1 locs1 hR1 hS1 => kk.put rfl hR1 hS1 hl hst5)
        rw [hst5.cats]
        have : nativeFrameWords "java/lang/System" "arraycopy" 5 ≤ 100 := by decide +kernel
        have hg7 : (ast'.map xcat).sum ≤ 8 := Nat.le_of_ble_eq_true hg6
        omega
      · cases hs
    · simp only [xstep] at hs
      split at hs
      · rename_i x r rs
        obtain ⟨e3, e6⟩ := q_nx hs
        cases e3; subst e6
        obtain ⟨hg1, hg2, hg3⟩ := hg
        obtain ⟨wx, v1, rfl, ex, hst1⟩ := hst.i1
        obtain ⟨v2, rfl, hrn, hst2⟩ := hst1.r1 (hR.n0 hg1 (by omega))
        subst ex
        dsimp only at hrc hrs
        refine hI.2.2.2 hx hmls hown hts hGr hA hR hS hRf hRl (by omega) (by omega) (by rw [hst2.cats]; exact Nat.le_of_ble_eq_true hg3) hL hg1 hg2 hD (fun q H1 locs1 hR1 hS1 => ?_)
        refine kk (up1 ad M.2.2.2.2.1 q) H1 locs1 (cells + 1) (slots + wx.toInt.toNat) ls _ hR1 (hl.grow (Nat.le_succ _) (fun a ha => if_neg (by omega))) ⟨Or.inr ⟨?_, Nat.lt_succ_self _, ?_⟩, hst2.grow (Nat.le_succ _) (fun a ha => if_neg (by omega))⟩ hS1 (fun a ha => if_neg (by omega)) (Nat.le_succ _) (by dsimp only; omega) (by dsimp only; omega)
        · exact Nat.ne_of_gt hn0
        · exact congrArg Value.ref (if_pos rfl).symm
      · cases hs
  case invokespecial i =>
    obtain ⟨e1, hL⟩ := hL
    subst e1
    rcases b with _ | b1
    · simp only [xstep] at hs
      cases hs
    · obtain ⟨w1, w2, w3⟩ := hL
      simp only [xstep] at hs
      split at hs
      · obtain ⟨e3, e6⟩ := q_nx hs
        cases e3; subst e6
        obtain ⟨q, vs, rfl, eq, hst2⟩ := hst.a1
        refine W.objInit hx rfl hown (hts _ w1) (hts _ w2) (hts _ w3) rfl (g := F0 m pc ls (.ref q :: vs)) (by show ls.size = _; exact hmls.symm) rfl hD (by omega) ?_ ?_
        · show 2 * 0 + _ + 12 ≤ _
          rw [hst2.cats]
          have hg : _ ≤ 8 := Nat.le_of_ble_eq_true hg
          omega
        · exact kk.same hR hS hl hst2
      · cases hs
  case invokevirtual i =>
    obtain ⟨e1, hL⟩ := hL
    subst e1
    rcases b with _ | _ | _ | b1
    · simp only [xstep] at hs
      cases hs
    · simp only [xstep] at hs
      split at hs
      · obtain ⟨e3, e6⟩ := q_nx hs
        cases e3; subst e6
        obtain ⟨hg1, hg2⟩ := hg
        obtain ⟨v2, rfl, hrn, hst2⟩ := hst.r1 (hR.n0 hg1 (by omega))
        obtain ⟨k, k1, k2, k3, k4, k5⟩ := hR.s26 hT hg1
        rw [k3]
        refine hI.1 hx hmls hown hts hGr hS hRf hRl hc0 hs0 (by rw [hst2.cats]; exact Nat.le_of_ble_eq_true hg2) hL k1 hD (fun r hr => kk.same hR hS hl (hst2.i ?_))
        rw [hr, k4]
      · cases hs
    · simp only [xstep] at hs
      split at hs
      · obtain ⟨e3, e6⟩ := q_nx hs
        cases e3; subst e6
        obtain ⟨hg1, hg2, hg3⟩ := hg
        obtain ⟨wx, v1, rfl, ex, hst1⟩ := hst.i1
        obtain ⟨v2, rfl, hrn, hst2⟩ := hst1.r1 (hR.n0 hg1 (by omega))
        obtain ⟨k, k1, k2, k3, k4, k5⟩ := hR.s26 hT hg1
        rw [k3]
        refine hI.2.1 hx hmls hown hts hGr hS hRf hRl hc0 hs0 (by rw [hst2.cats]; exact Nat.le_of_ble_eq_true hg3) hL k1 (by rw [← k4]; exact o_in ex hg2) hD (fun r hr => kk.same hR hS hl (hst2.i ?_))
        rw [hr, k5, k2, ex]
      · cases hs
    · simp only [xstep] at hs
      split at hs
      · obtain ⟨e3, e6⟩ := q_nx hs
        cases e3; subst e6
        obtain ⟨hg1, hg3⟩ := hg
        obtain ⟨wx, v1, rfl, ex, hst1⟩ := hst.i1
        obtain ⟨v2, rfl, hrn, hst2⟩ := hst1.r1 (hR.n0 hg1 (by omega))
        obtain ⟨k, k1, k2, k3, k4, k5⟩ := hR.s26 hT hg1
        rw [k3]
        refine hI.2.2.1 hx hmls hown hts hGr hS hRf hRl hc0 hs0 (by rw [hst2.cats]; exact Nat.le_of_ble_eq_true hg3) hL k1 hD (fun r hr => kk.same hR hS hl (hst2.i ?_))
        rw [hr, ex, k4, k2]
        exact xixF_congr (fun k9 => by rw [← k2, k5]) _ _
      · cases hs
end MEMS
