section CALL
variable {T : xTT} {G : xG} {l : Launch} {k : Nat}
theorem xofWF {y : MethodName} {ws ws' : List Cond} {rm : Room} {Pc : Array Value → State → Prop} {Qc : Array Value → State → Outcome → State → Prop} {XC : String → State → State → Prop} {mc ms : Nat} {free : Addr → Prop} {cc : ByteArray} {maxL : Nat} {ret : Option FieldType}
    (hy : plainFor y = true) (hw : ws = Cond.code y cc maxL ret :: ws')
    (body : ∀ p e s m args below meth c s₁, BodyLoose p l y (headSpec ws rm) cc maxL ret e s m args below meth c s₁ → c.maxLocals = maxL → (∀ x ∈ c.exceptionTable.toList, False) → Pc args s →
      W p l e (headSpec ws rm).room s m args below meth c s.heap [] 0 0 (vx_MQ below Qc XC args s mc ms free) (entryFrame m args maxL)) : vx_Met l y ws rm Pc Qc XC mc ms free := by
  refine Jvm.Free.MetFree.of_bodySF (code := cc) (maxLocals := maxL) (ret := ret) hy ?_ ?_
  · intro args s m h hn
    obtain ⟨meth, c, h1, h2, h3, h4, h5, h6, -, -⟩ := Cond.code_spec hn (atoms_spec (ws := ws) h _ (by rw [hw]; exact List.mem_cons_self))
    exact ⟨meth, c, h1, h2, h3, h4, h5, h6⟩
  · intro p e s m args below meth c s₁ B hml hP _
    have hh0 : s₁.heap = s.heap := by rw [B.state]; rfl
    have ht : ∀ x ∈ c.exceptionTable.toList, False := by
      obtain ⟨meth9, c9, h1, h2, -, -, -, -, h7, -⟩ := Cond.code_spec B.named (atoms_spec (ws := ws) B.pre _ (by rw [hw]; exact List.mem_cons_self))
      cases Option.some.inj (h1.symm.trans B.method)
      cases Option.some.inj (h2.symm.trans (Stand.of_body B).code)
      intro x hx
      rw [Array.isEmpty_iff.mp h7] at hx
      cases hx
    obtain ⟨t, a1, o, b1, b2, b3⟩ := body p e s m args below meth c s₁ B hml ht hP s₁ hh0 (Stand.of_body B)
    exact ⟨t, o, a1, b1, b2, b3⟩
theorem xRoomOf (a b c d : Nat) : (headSpec ([] : List Cond) ({ frames := a, cells := b, slots := c, locals := d } : Room)).room = ({ frames := a, cells := b, slots := c, locals := d } : Room) := rfl
/-- a method's contract, by a walk of k steps -/
theorem xmet (IH : XW T G l k) (hl : l.stackTraces = false) {d y : Nat} {xs : List xV} {M M' : xM} {r : xRes} (he : exec (tP T) k d y 0 (xlocs ((tP T).2.1 y) xs) [] M = some (r, M')) (hy : xMd T y) (hh : thh T y = []) {ad : Nat → Nat} {vs : List Value} (hv : xRS ad M.2.2.2.2.1 vs xs) (hlen : (xlay xs).length ≤ (tP T).2.1 y) :
    vx_Met l (tnm T y) (xwy T y) ({ frames := xfr T d y, cells := M'.2.2.2.2.2.1 - M.2.2.2.2.2.1, slots := M'.2.2.2.2.2.2 - M.2.2.2.2.2.2, locals := 40 * xfr T d y } : Room) (xPc T G ad M vs) (xQc T G ad M.2.2.2.2.1 r M') (xXC T G ad M.2.2.2.2.1 r M') (M'.2.2.2.2.2.1 - M.2.2.2.2.2.1) (M'.2.2.2.2.2.2 - M.2.2.2.2.2.2) (xA G) := by
  refine xofWF (cc := tbt T y) (maxL := (tP T).2.1 y) (ret := trt T y) hy.1.1 rfl ?_
  intro p e s m args below meth c s₁ B hml htab hP
  obtain ⟨rfl, hGr, hA, hR⟩ := hP
  have hts := atoms_spec (ws := xwy T y) B.pre
  have hnil : c.exceptionTable.toList = tableOf (thh T y) := by
    rw [hh]
    cases hc : c.exceptionTable.toList with
    | nil => rfl
    | cons x r => exact (htab x (by rw [hc]; exact List.mem_cons_self)).elim
  have hC : xCx T l y p s m vs.toArray meth c := ⟨B.exec, B.bytes, B.returns, findClass_of_methodNamed B.named, fun w hw => hts w (List.mem_cons_of_mem _ hw), B.notSynchronized, hml, hnil, (name_of_methodNamed B.named B.method).1, hl⟩
  obtain ⟨h1, h2, h3⟩ := exec_le he
  rw [lg_entry_eq]
  have h8 : 8 ≤ xfr T d y := by unfold xfr; omega
  refine IH he hC hGr hA (Nat.le_refl _) (Nat.le_refl _) hR (hv.entry' hlen) trivial va_S.rf (adm := ad) (n0 := M.2.2.2.2.1) (fun _ _ => rfl) (Nat.le_refl _) (kc := M.2.2.2.2.2.1) (ks := M.2.2.2.2.2.2) (Nat.zero_add _) (Nat.zero_add _) (by show _ ≤ _ + (M'.2.2.2.2.2.1 - M.2.2.2.2.2.1); omega) (by show _ ≤ _ + (M'.2.2.2.2.2.2 - M.2.2.2.2.2.2); omega) ?_
  exact xfin_met hC hGr h8 (by show 512 ≤ 40 * xfr T d y; unfold xfr; omega) (by omega) (by omega) rfl rfl
/-- the same for a method with a table of its own, which nothing leaves but an answer -/
theorem xmetW (IH : XW T G l k) (hl : l.stackTraces = false) {d y : Nat} {xs : List xV} {M M' : xM} {r : xRes} (he : exec (tP T) k d y 0 (xlocs ((tP T).2.1 y) xs) [] M = some (r, M')) (hy : xMd T y) (hh : thh T y ≠ []) {ad : Nat → Nat} {vs : List Value} (hv : xRS ad M.2.2.2.2.1 vs xs) (hlen : (xlay xs).length ≤ (tP T).2.1 y) :
    Met l (tnm T y) (Cond.codeWith (tnm T y) (tbt T y) ((tP T).2.1 y) (trt T y) (thh T y) :: tTg T) ({ frames := xfr T d y, cells := M'.2.2.2.2.2.1 - M.2.2.2.2.2.1, slots := M'.2.2.2.2.2.2 - M.2.2.2.2.2.2, locals := 40 * xfr T d y } : Room) (xPc T G ad M vs) (xQc T G ad M.2.2.2.2.1 r M') (M'.2.2.2.2.2.1 - M.2.2.2.2.2.1) (M'.2.2.2.2.2.2 - M.2.2.2.2.2.2) (xA G) := by
  refine va_MetW (cc := tbt T y) (maxL := (tP T).2.1 y) (ret := trt T y) (hy.1.2.resolve_left hh) rfl ?_
  intro p e s m args below meth c s₁ B hml hP
  obtain ⟨rfl, hGr, hA, hR⟩ := hP
  have hts := atoms_spec (ws := Cond.codeWith (tnm T y) (tbt T y) ((tP T).2.1 y) (trt T y) (thh T y) :: tTg T) B.pre
  have hC : xCx T l y p s m vs.toArray meth c := ⟨B.exec, B.bytes, B.returns, findClass_of_methodNamed B.named, fun w hw => hts w (List.mem_cons_of_mem _ hw), B.notSynchronized, hml, vx_table (x := tnm T y) B (hts _ List.mem_cons_self), (name_of_methodNamed B.named B.method).1, hl⟩
  obtain ⟨h1, h2, h3⟩ := exec_le he
  rw [lg_entry_eq]
  have h8 : 8 ≤ xfr T d y := by unfold xfr; omega
  have main : ∀ (Q : State → Prop), xFin T G l p e (headSpec (Cond.codeWith (tnm T y) (tbt T y) ((tP T).2.1 y) (trt T y) (thh T y) :: tTg T) ({ frames := xfr T d y, cells := M'.2.2.2.2.2.1 - M.2.2.2.2.2.1, slots := M'.2.2.2.2.2.2 - M.2.2.2.2.2.2, locals := 40 * xfr T d y } : Room)).room s m vs.toArray below meth c Q y ad M.2.2.2.2.1 M.2.2.2.2.2.1 M.2.2.2.2.2.2 r M' → W p l e (headSpec (Cond.codeWith (tnm T y) (tbt T y) ((tP T).2.1 y) (trt T y) (thh T y) :: tTg T) ({ frames := xfr T d y, cells := M'.2.2.2.2.2.1 - M.2.2.2.2.2.1, slots := M'.2.2.2.2.2.2 - M.2.2.2.2.2.2, locals := 40 * xfr T d y } : Room)).room s m vs.toArray below meth c s.heap [] 0 0 Q (F0 m 0 ((lg_sl vs ++ List.replicate ((tP T).2.1 y - (lg_sl vs).length) Slot.unset).toArray) []) := fun Q hfin =>
    IH he hC hGr hA (Nat.le_refl _) (Nat.le_refl _) hR (hv.entry' hlen) trivial va_S.rf (adm := ad) (n0 := M.2.2.2.2.1) (fun _ _ => rfl) (Nat.le_refl _) (kc := M.2.2.2.2.2.1) (ks := M.2.2.2.2.2.2) (Nat.zero_add _) (Nat.zero_add _) (by show _ ≤ _ + (M'.2.2.2.2.2.1 - M.2.2.2.2.2.1); omega) (by show _ ≤ _ + (M'.2.2.2.2.2.2 - M.2.2.2.2.2.2); omega) hfin
  match r, main with
  | .inr E, main => exact main _ (fun h => absurd h hh)
  | .inl ov, main =>
    have h9 := main _ (xfin_met (mc := M'.2.2.2.2.2.1 - M.2.2.2.2.2.1) (ms := M'.2.2.2.2.2.2 - M.2.2.2.2.2.2) hC hGr h8 (by show 512 ≤ 40 * xfr T d y; unfold xfr; omega) (by omega) (by omega) rfl rfl)
    intro T0 hT0 X
    obtain ⟨t, a1, o, b1, b2, b3⟩ := h9 T0 hT0 X
    rcases b3 with b3 | ⟨q, b4, E, ce, L, ⟨E', ad', hE, -⟩, -⟩
    · exact ⟨t, a1, o, b1, b2, b3⟩
    · cases hE
set_option maxHeartbeats 4000000 in
/-- behind a call -/
theorem x_after (hT : xOK T) (IH : XW T G l k) {d y pc : Nat} {als rest : List xV} {M M1 M' : xM} {r r1 : xRes} {p : Program} {e : Env} {R : Room} {s : State} {m : MethodId} {args : Array Value} {below : List Frame} {meth : Method} {c : Code} {H : Heap} {locs : List Loc} {cells slots mc ms : Nat} {Q : State → Prop} {ls : Array Slot} {st restv : List Value} {ad adm : Nat → Nat} {n0 kc ks : Nat} {a0 : Array Value}
    (hC : xCx T l y p s m args meth c) (hGr : xGr T G s s.heap) (hA : G.2.2.1 ≤ s.heap.size) (hRf : xfr T d y ≤ R.frames) (hRl : 40 * xfr T d y ≤ R.locals) (hl : xRL ad M.2.2.2.2.1 ((tP T).2.1 y) ls als) (hrest : xRS ad M.2.2.2.2.1 restv rest) (hS : va_S (xA G) s.heap H locs) (hag : ∀ a, a < n0 → ad a = adm a) (hn0 : n0 ≤ M.2.2.2.2.1)
    (hc : cells + kc = M.2.2.2.2.2.1) (hs : slots + ks = M.2.2.2.2.2.2) (hle : xLe M M1) (hb1 : M'.2.2.2.2.2.1 ≤ kc + R.cells) (hb2 : M'.2.2.2.2.2.2 ≤ ks + R.slots) (hfin : xFin T G l p e R s m args below meth c Q y adm n0 kc ks r M') (hmc : M1.2.2.2.2.2.1 = M.2.2.2.2.2.1 + mc) (hms : M1.2.2.2.2.2.2 = M.2.2.2.2.2.2 + ms)
    (hcat : xCat T y pc)
    (hk : xKont T k d y pc als rest r1 M1 (r, M'))
    (hrun : vx_Run p l e R s m args below meth c H locs cells slots mc ms (F0 m pc ls st) restv (xQc T G ad M.2.2.2.2.1 r1 M1 a0) (xXC T G ad M.2.2.2.2.1 r1 M1) (xA G)) : W p l e R s m args below meth c H locs cells slots Q (F0 m pc ls st) := by
  have hC0 := hC
  obtain ⟨hx, hb, hr, hown, hts, hlocks, hml, htab, hname, htr⟩ := hC0
  have va : ∀ {st₀ t : State} {H1 : Heap} {L : List Loc}, st₀.heap = H → t.heap = H1 → va_F (xA G) st₀ t → (∀ q ∈ L, xA G q.base) → va_S (xA G) s.heap H1 (locs ++ L) := by
    intro st₀ t H1 L h0 h1 hF hL
    obtain ⟨f1, f2⟩ := hF
    rw [h0] at f1 f2
    rw [h1] at f1 f2
    refine ⟨Nat.le_trans hS.1 f1, fun q g1 g2 => by rw [f2 q (Nat.lt_of_lt_of_le g1 hS.1) g2]; exact hS.2.1 q g1 g2, fun q hq => ?_⟩
    rcases List.mem_append.mp hq with h | h
    · exact hS.2.2 q h
    · exact hL q h
  intro T0 hT0 X
  rcases hrun T0 hT0 X with ⟨v, st₀, t, T', L, h0, X', hL, e1, e2, hQ, go⟩ | ⟨q, st₀, t, T', L, E, ce, h0, X', hL, e1, e2, hX, hq, hce, hcl, go⟩
  · obtain ⟨ov, v', ad', hr1, ho, hv, hR', ha', hF⟩ := hQ
    cases ho
    subst hr1
    have hag' : ∀ a, a < n0 → ad' a = adm a := fun a h => by rw [ha' a (Nat.lt_of_lt_of_le h hn0)]; exact hag a h
    have hS' := va h0 e1.symm hF hL
    rw [← e1] at hR'
    match ov, v, hv, hk, go with
    | none, none, _, hk, go =>
      have hk : exec (tP T) k d y (pc + 3) als rest M1 = some (r, M') := hk
      obtain ⟨t2, a1, b1⟩ := IH hk hC hGr hA hRf hRl hR' (hl.grow hle.1 ha') (hrest.grow' hle.1 ha') hS' hag' (Nat.le_trans hn0 hle.1) (by omega) (by omega) hb1 hb2 hfin T' rfl X'
      exact ⟨t2, go t2 a1, b1⟩
    | some x, some v, hv, hk, go =>
      have hk : exec (tP T) k d y (pc + 3) als (x :: rest) M1 = some (r, M') := hk
      obtain ⟨t2, a1, b1⟩ := IH hk hC hGr hA hRf hRl hR' (hl.grow hle.1 ha') (st := v :: restv) ⟨hv, hrest.grow' hle.1 ha'⟩ hS' hag' (Nat.le_trans hn0 hle.1) (by omega) (by omega) hb1 hb2 hfin T' rfl X'
      exact ⟨t2, go t2 a1, b1⟩
  · obtain ⟨E', ad', hr1, hE, hR', ha', hF⟩ := hX
    subst hr1
    subst hE
    have hag' : ∀ a, a < n0 → ad' a = adm a := fun a h => by rw [ha' a (Nat.lt_of_lt_of_le h hn0)]; exact hag a h
    have hS' := va h0 e1.symm hF hL
    rw [← e1] at hR' hq
    dsimp only [xKont] at hk
    have key : vx_W p l e R s m args below meth c T'.heap (locs ++ L) (cells + mc) (slots + ms) Q (F0 m pc ls restv) q := by
      split at hk
      · split at hk
        · rename_i hct
          cases hk
          exact (hfin (hcat.1 hct)).1 ad' T'.heap (locs ++ L) (cells + mc) (slots + ms) ls pc restv q ce hR' hS' hag' (by omega) (by omega) hq hce hcl
        · cases hk
      · rename_i pc' hct
        obtain ⟨pre, x, suf, g1, g2, g3, g4, g5, g6, g7⟩ := hcat.2 E' pc' hct
        refine vx_catch (E := xEx E') (ce := ce) hown pre x suf (by rw [htab]; exact g1) (fun z hz => ?_) g2 g3 (hts _ g5) (xbadw hGr g6) hq hce hcl ?_
        · rcases g7 z hz with h | ⟨h1, nm, h2, h3⟩
          · exact Or.inl h
          · exact Or.inr ⟨h1, nm, hts _ h2, hGr.2.2.2.2.2.2.2.2.2 _ h3⟩
        · rw [g4]
          exact IH hk hC hGr hA hRf hRl hR' (hl.grow hle.1 ha') (st := [.ref q]) ⟨Or.inl ⟨rfl, q, rfl⟩, trivial⟩ hS' hag' (Nat.le_trans hn0 hle.1) (by omega) (by omega) hb1 hb2 hfin
    obtain ⟨t2, a1, b1⟩ := key T' rfl X'
    exact ⟨t2, go.trans a1, b1⟩
end CALL
