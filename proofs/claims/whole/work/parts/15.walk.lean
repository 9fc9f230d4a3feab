/-! ===== THE WALK: what the plain machine does, the JVM does ===== -/
theorem xlay_args {ad : Nat → Nat} {n : Nat} : ∀ {vs : List Value} {xs : List xV} (k : Nat), xRS ad n vs xs → (lg_sl vs).length = (xlay xs).length ∧ ∀ (i : Nat) (x : xV), (xlay xs)[i]? = some x → x ≠ vr 0 → ∃ v : Value, (k + i, v) ∈ lv_args k vs ∧ xRV ad n v x
  | [], [], k, _ => ⟨rfl, fun i x h => by simp [xlay] at h⟩
  | v :: vs, x :: xs, k, ⟨h1, h2⟩ => by
    have hc := h1.cat
    by_cases hx2 : xcat x = 2
    · match x, hx2, h1 with
      | .inr (.inl z), _, h1 =>
        obtain ⟨w, rfl, ew⟩ := h1
        obtain ⟨i1, i2⟩ := xlay_args (k + 2) h2
        refine ⟨?_, fun i x h h0 => ?_⟩
        · show (Slot.val (.long w) :: Slot.second :: lg_sl vs).length = (vl z :: vr 0 :: xlay xs).length
          simp [i1]
        · have h : (vl z :: vr 0 :: xlay xs)[i]? = some x := h
          match i, h with
          | 0, h =>
            cases h
            exact ⟨.long w, List.mem_cons_self, w, rfl, ew⟩
          | 1, h => cases h; exact absurd rfl h0
          | i + 2, h =>
            obtain ⟨v9, g1, g2⟩ := i2 i x h h0
            refine ⟨v9, List.mem_cons_of_mem _ ?_, g2⟩
            show (k + (i + 2), v9) ∈ lv_args (k + 2) vs
            rw [show k + (i + 2) = k + 2 + i by omega]
            exact g1
    · have hv1 : ¬ v.category = 2 := by rw [hc]; exact hx2
      obtain ⟨i1, i2⟩ := xlay_args (k + 1) h2
      have e1 : xlay (x :: xs) = x :: xlay xs := by
        match x, hx2 with
        | .inl z, _ => rfl
        | .inr (.inr z), _ => rfl
        | .inr (.inl z), h => exact absurd rfl h
      have e2 : lg_sl (v :: vs) = Slot.val v :: lg_sl vs := by
        show (if v.category = 2 then [Slot.val v, .second] else [Slot.val v]) ++ lg_sl vs = _
        rw [if_neg hv1]
        rfl
      have e3 : lv_args k (v :: vs) = (k, v) :: lv_args (k + 1) vs := by
        show (k, v) :: lv_args (if v.category = 2 then k + 2 else k + 1) vs = _
        rw [if_neg hv1]
      rw [e1, e2, e3]
      refine ⟨by simp [i1], fun i x9 h h0 => ?_⟩
      match i, h with
      | 0, h =>
        cases h
        exact ⟨v, List.mem_cons_self, h1⟩
      | i + 1, h =>
        obtain ⟨v9, g1, g2⟩ := i2 i x9 h h0
        exact ⟨v9, List.mem_cons_of_mem _ (by rw [show k + (i + 1) = k + 1 + i by omega]; exact g1), g2⟩
theorem xRL.entry {ad : Nat → Nat} {n nL : Nat} {vs : List Value} {xs : List xV} (h : xRS ad n vs xs) (hn : (xlay xs).length ≤ nL) : xRL ad n nL ((lg_sl vs ++ List.replicate (nL - (lg_sl vs).length) Slot.unset).toArray) (xlocs nL xs) := by
  obtain ⟨h1, h2⟩ := xlay_args 0 h
  obtain ⟨g1, g2, g3⟩ := lv_entry vs (n := nL) (by omega)
  refine ⟨by unfold xlocs; rw [List.length_append, List.length_replicate]; omega, g1, g2, fun i x hx h0 => ?_⟩
  unfold xlocs at hx
  by_cases hi : i < (xlay xs).length
  · rw [List.getElem?_append_left hi] at hx
    obtain ⟨v, m1, m2⟩ := h2 i x hx h0
    rw [Nat.zero_add] at m1
    exact ⟨v, g3 _ m1, m2⟩
  · rw [List.getElem?_append_right (by omega)] at hx
    have := List.mem_of_getElem? hx
    rw [List.mem_replicate] at this
    exact absurd this.2 h0
theorem xRS.take {ad : Nat → Nat} {n : Nat} : ∀ {vs : List Value} {xs : List xV} (k : Nat), xRS ad n vs xs → xRS ad n (vs.take k) (xs.take k) ∧ xRS ad n (vs.drop k) (xs.drop k)
  | vs, xs, 0, h => ⟨by simp [xRS], h⟩
  | [], [], k + 1, _ => ⟨trivial, trivial⟩
  | v :: vs, x :: xs, k + 1, ⟨h1, h2⟩ => by
    obtain ⟨a, b⟩ := xRS.take k h2
    exact ⟨⟨h1, a⟩, b⟩
theorem xRS.app {ad : Nat → Nat} {n : Nat} : ∀ {vs ws : List Value} {xs zs : List xV}, xRS ad n vs xs → xRS ad n ws zs → xRS ad n (vs ++ ws) (xs ++ zs)
  | [], _, [], _, _, h => h
  | _ :: _, _, _ :: _, _, ⟨h1, h2⟩, h => ⟨h1, xRS.app h2 h⟩
theorem xRS.rev {ad : Nat → Nat} {n : Nat} : ∀ {vs : List Value} {xs : List xV}, xRS ad n vs xs → xRS ad n vs.reverse xs.reverse
  | [], [], _ => trivial
  | v :: vs, x :: xs, ⟨h1, h2⟩ => by
    rw [List.reverse_cons, List.reverse_cons]
    exact xRS.app (xRS.rev h2) ⟨h1, trivial⟩
/-- frames and words that a method wants -/
def xfr (T : xTT) (d y : Nat) : Nat := d * 64 + (tP T).2.2.1 y + 13
/-- where a method returns -/
def xRet (T : xTT) (y pc : Nat) (ov : Option xV) (st : List Value) (ad : Nat → Nat) (n : Nat) : Prop := match ov with
  | none => decode (tbt T y) pc = .ok (.return_, 1) ∧ st = [] ∧ trt T y = none
  | some (.inl z) => decode (tbt T y) pc = .ok (.ireturn, 1) ∧ (∃ w : Int32, st = [.int w] ∧ w.toInt = z) ∧ (trt T y = some .int ∨ (trt T y = some .boolean ∧ (z = 0 ∨ z = 1)) ∨ (trt T y = some .char ∧ 0 ≤ z ∧ z < 65536))
  | some (.inr (.inl z)) => decode (tbt T y) pc = .ok (.lreturn, 1) ∧ (∃ w : Int64, st = [.long w] ∧ w.toInt = z) ∧ trt T y = some .long
  | some (.inr (.inr r)) => decode (tbt T y) pc = .ok (.areturn, 1) ∧ st = [.ref (ad r)] ∧ r ≠ 0 ∧ r < n ∧ ((∃ n, trt T y = some (.object n)) ∨ ∃ t, trt T y = some (.array t))
def xFin (T : xTT) (G : xG) (l : Launch) (p : Program) (e : Env) (R : Room) (s : State) (m : MethodId) (args : Array Value) (below : List Frame) (meth : Method) (c : Code) (Q : State → Prop) (y : Nat) (adm : Nat → Nat) (n0 kc ks : Nat) (r : xRes) (M' : xM) : Prop := match r with
  | .inl ov => ∀ (ad : Nat → Nat) (H : Heap) (locs : List Loc) (cells slots : Nat) (ls : Array Slot) (pc : Nat) (st : List Value), xRelT T G ad M' H → va_S (xA G) s.heap H locs → (∀ a, a < n0 → ad a = adm a) → cells + kc = M'.2.2.2.2.2.1 → slots + ks = M'.2.2.2.2.2.2 → xRet T y pc ov st ad M'.2.2.2.2.1 → W p l e R s m args below meth c H locs cells slots Q (F0 m pc ls st)
  | .inr E => thh T y = [] → (∀ (ad : Nat → Nat) (H : Heap) (locs : List Loc) (cells slots : Nat) (ls : Array Slot) (pc : Nat) (st : List Value) (q : Addr) (ce : Cell), xRelT T G ad M' H → va_S (xA G) s.heap H locs → (∀ a, a < n0 → ad a = adm a) → cells + kc = M'.2.2.2.2.2.1 → slots + ks = M'.2.2.2.2.2.2 → H[q]? = some ce → ce.vm = .none → s.vm.findClass (xEx E) = some ce.cls → vx_W p l e R s m args below meth c H locs cells slots Q (F0 m pc ls st) q) ∧
     (∀ (ad : Nat → Nat) (H : Heap) (locs : List Loc) (cells slots : Nat) (ls : Array Slot) (pc : Nat) (M0 : xM) (i len b c0 : Nat) (z : Int), M' = (M0.1, M0.2.1, M0.2.2.1, M0.2.2.2.1, M0.2.2.2.2.1, M0.2.2.2.2.2.1 + 1, M0.2.2.2.2.2.2 + 6) → xRelT T G ad M0 H → va_S (xA G) s.heap H locs → (∀ a, a < n0 → ad a = adm a) → cells + kc = M0.2.2.2.2.2.1 → slots + ks = M0.2.2.2.2.2.2 → ls.size = c.maxLocals → xLk T y (pc, .new i, len, E, b, c0 + 1, z) → W p l e R s m args below meth c H locs cells slots Q (F0 m pc ls []))
/-- for k steps the walk is done -/
def XW (T : xTT) (G : xG) (l : Launch) (k : Nat) : Prop := ∀ {d y pc : Nat} {als ast : List xV} {M M' : xM} {r : xRes}, exec (tP T) k d y pc als ast M = some (r, M') →
  ∀ {p : Program} {e : Env} {R : Room} {s : State} {m : MethodId} {args : Array Value} {below : List Frame} {meth : Method} {c : Code} {H : Heap} {locs : List Loc} {cells slots : Nat} {Q : State → Prop} {ls : Array Slot} {st : List Value} {ad adm : Nat → Nat} {n0 kc ks : Nat},
  xCx T l y p s m args meth c → xGr T G s s.heap → G.2.2.1 ≤ s.heap.size → xfr T d y ≤ R.frames → 40 * xfr T d y ≤ R.locals → xRelT T G ad M H → xRL ad M.2.2.2.2.1 ((tP T).2.1 y) ls als → xRS ad M.2.2.2.2.1 st ast → va_S (xA G) s.heap H locs → (∀ a, a < n0 → ad a = adm a) → n0 ≤ M.2.2.2.2.1 →
  cells + kc = M.2.2.2.2.2.1 → slots + ks = M.2.2.2.2.2.2 → M'.2.2.2.2.2.1 ≤ kc + R.cells → M'.2.2.2.2.2.2 ≤ ks + R.slots → xFin T G l p e R s m args below meth c Q y adm n0 kc ks r M' → W p l e R s m args below meth c H locs cells slots Q (F0 m pc ls st)
/-- what a callee gives back, by what the plain machine gives back -/
def xRV1 (ov : Option xV) (v : Option Value) (ad : Nat → Nat) (n : Nat) : Prop := match ov, v with
  | none, none => True
  | some x, some v => xRV ad n v x
  | _, _ => False
def xQc (T : xTT) (G : xG) (ad : Nat → Nat) (n0 : Nat) (r : xRes) (M' : xM) : Array Value → State → Outcome → State → Prop := fun _ st o t => ∃ (ov : Option xV) (v : Option Value) (ad' : Nat → Nat), r = .inl ov ∧ o = .returned v ∧ xRV1 ov v ad' M'.2.2.2.2.1 ∧ xRelT T G ad' M' t.heap ∧ (∀ a, a < n0 → ad' a = ad a) ∧ va_F (xA G) st t
def xXC (T : xTT) (G : xG) (ad : Nat → Nat) (n0 : Nat) (r : xRes) (M' : xM) : String → State → State → Prop := fun E st t => ∃ (E' : Nat) (ad' : Nat → Nat), r = .inr E' ∧ E = xEx E' ∧ xRelT T G ad' M' t.heap ∧ (∀ a, a < n0 → ad' a = ad a) ∧ va_F (xA G) st t
def xPc (T : xTT) (G : xG) (ad : Nat → Nat) (M : xM) (vs : List Value) : Array Value → State → Prop := va_Pc vs (fun U => xGr T G U U.heap ∧ G.2.2.1 ≤ U.heap.size ∧ xRelT T G ad M U.heap)
def xwy (T : xTT) (y : Nat) : List Cond := Cond.code (tnm T y) (tbt T y) ((tP T).2.1 y) (trt T y) :: tTg T
theorem xRS.entry' {ad : Nat → Nat} {n nL : Nat} {vs : List Value} {xs : List xV} (h : xRS ad n vs xs) (hn : (xlay xs).length ≤ nL) : xRL ad n nL ((lg_sl vs ++ List.replicate (nL - (lg_sl vs).length) Slot.unset).toArray) (xlocs nL xs) := xRL.entry h hn
theorem xRS.grow' {ad ad' : Nat → Nat} {n n' : Nat} {vs : List Value} {xs : List xV} (h : xRS ad n vs xs) (hn : n ≤ n') (ha : ∀ a, a < n → ad' a = ad a) : xRS ad' n' vs xs := xRS.grow hn ha h
/-- how the plain machine goes on behind a call -/
def xKont (T : xTT) (k d y pc : Nat) (als rest : List xV) (r1 : xRes) (M1 : xM) (q : xRes × xM) : Prop := match r1 with
  | .inl none => exec (tP T) k d y (pc + 3) als rest M1 = some q
  | .inl (some v) => exec (tP T) k d y (pc + 3) als (v :: rest) M1 = some q
  | .inr E => (match xcatch ((tP T).2.2.2 y) E with
    | none => (match (tP T).2.2.2 y with | [] => some (.inr E, M1) | _ :: _ => none)
    | some pc' => exec (tP T) k d y pc' als [vr 0] M1) = some q
