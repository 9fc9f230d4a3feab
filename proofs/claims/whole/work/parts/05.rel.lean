/-! ===== HOW THE PLAIN MACHINE STANDS TO THE JVM's STATE ===== -/
def r32 (z : Int) : Prop := -2147483648 ≤ z ∧ z < 2147483648
def r64 (z : Int) : Prop := -9223372036854775808 ≤ z ∧ z < 9223372036854775808
theorem r32_of (x : Int32) : r32 x.toInt := by
  have h1 := x.le_toInt
  have h2 := x.toInt_lt
  exact ⟨by simpa using h1, by simpa using h2⟩
theorem r64_of (x : Int64) : r64 x.toInt := by
  have h1 := x.le_toInt
  have h2 := x.toInt_lt
  exact ⟨by simpa using h1, by simpa using h2⟩
theorem i32_of {z : Int} (h : r32 z) : (Int32.ofInt z).toInt = z := Int32.toInt_ofInt_of_le (by have := h.1; simpa using this) (by have := h.2; simpa using this)
theorem i64_of {z : Int} (h : r64 z) : (Int64.ofInt z).toInt = z := Int64.toInt_ofInt_of_le (by have := h.1; simpa using this) (by have := h.2; simpa using this)
theorem i32_eq {x : Int32} {z : Int} (h : x.toInt = z) : Int32.ofInt z = x := by rw [← h, Int32.ofInt_toInt]
theorem i64_eq {x : Int64} {z : Int} (h : x.toInt = z) : Int64.ofInt z = x := by rw [← h, Int64.ofInt_toInt]
/-- a field's kind by its descriptor -/
def xfk (d : String) : Nat := if d = "I" then 0 else if d = "Z" then 3 else if d = "J" then 1 else 2
def xref (ad : Nat → Nat) (r : Nat) : Value := if r = 0 then .null else .ref (ad r)
def xrf (ad : Nat → Nat) (r : Nat) : Option Nat := if r = 0 then none else some (ad r)
theorem xrf_rf (ad : Nat → Nat) (r : Nat) : va_rf (xrf ad r) = xref ad r := by
  unfold xrf xref
  split <;> rfl
def xfv (ad : Nat → Nat) (M : xM) (a j k : Nat) : Value := if k = 1 then .long (Int64.ofInt (M.2.1 a j)) else if k = 2 then xref ad (M.2.2.1 a j) else .int (Int32.ofInt (M.1 a j))
def xN (cl : List vw_C) (c : Nat) : Nat := match cl[c]? with
  | some r => r.2.2
  | none => 0
def xFd (cl : List vw_C) (c : Nat) : u_T := match cl[c]? with
  | some r => r.2.1
  | none => fun _ => ("", "", "I", false)
def xcell (cl : List vw_C) (ca : Nat → ClassId) (ad : Nat → Nat) (M : xM) (a : Nat) : va_E :=
  if (M.2.2.2.1 a).1 = 20 ∨ (M.2.2.2.1 a).1 = 23 then .inl (ca (M.2.2.2.1 a).1, (M.2.2.2.1 a).2, .inl (fun j => Int32.ofInt (M.1 a j)))
  else if (M.2.2.2.1 a).1 = 22 then .inl (ca 22, (M.2.2.2.1 a).2, .inr (.inl (fun j => Int64.ofInt (M.2.1 a j))))
  else if (M.2.2.2.1 a).1 = 24 ∨ (M.2.2.2.1 a).1 = 25 then .inl (ca (M.2.2.2.1 a).1, (M.2.2.2.1 a).2, .inr (.inr (.inr (.inr (fun j => xrf ad (M.2.2.1 a j))))))
  else .inr ((M.2.2.2.1 a).1 - 1, (List.range (xN cl ((M.2.2.2.1 a).1 - 1))).map (fun j => xfv ad M a j (xfk (xFd cl ((M.2.2.2.1 a).1 - 1) j).2.2.1)))
/-- the cells from address S on -/
def xws (cl : List vw_C) (ca : Nat → ClassId) (ad : Nat → Nat) (S : Nat) (M : xM) : va_W := (List.range (M.2.2.2.2.1 - S)).map (fun i => (ad (S + i), xcell cl ca ad M (S + i)))
/-- a kind that a made cell may have -/
def xtag (cl : List vw_C) (t : Nat) : Prop := (1 ≤ t ∧ t ≤ cl.length) ∨ t = 20 ∨ t = 22 ∨ t = 23 ∨ t = 24 ∨ t = 25
theorem xws_at {cl : List vw_C} {ca : Nat → ClassId} {ad : Nat → Nat} {S : Nat} {M : xM} {a : Nat} (h1 : S ≤ a) (h2 : a < M.2.2.2.2.1) : (xws cl ca ad S M)[a - S]? = some (ad a, xcell cl ca ad M a) := by
  unfold xws
  rw [List.getElem?_map, List.getElem?_range (by omega)]
  simp only [Option.map_some]
  rw [show S + (a - S) = a by omega]
theorem xws_len {cl : List vw_C} {ca : Nat → ClassId} {ad : Nat → Nat} {S : Nat} {M : xM} : (xws cl ca ad S M).length = M.2.2.2.2.1 - S := by
  unfold xws
  rw [List.length_map, List.length_range]
/-- one cell changed -/
theorem xws_set {cl : List vw_C} {ca : Nat → ClassId} {ad : Nat → Nat} {S : Nat} {M M' : xM} {a : Nat} {e : va_E} (h1 : S ≤ a) (h2 : a < M.2.2.2.2.1) (hn : M'.2.2.2.2.1 = M.2.2.2.2.1) (he : xcell cl ca ad M' a = e) (ho : ∀ b, b ≠ a → xcell cl ca ad M' b = xcell cl ca ad M b) :
    (xws cl ca ad S M).set (a - S) (ad a, e) = xws cl ca ad S M' := by
  apply List.ext_getElem?
  intro i
  rw [List.getElem?_set]
  by_cases hi : a - S = i
  · subst hi
    rw [if_pos rfl, if_pos (by rw [xws_len]; omega), xws_at h1 (by rw [hn]; exact h2), he]
  · rw [if_neg hi]
    by_cases hl : i < M.2.2.2.2.1 - S
    · have e1 := xws_at (cl := cl) (ca := ca) (ad := ad) (S := S) (M := M) (a := S + i) (by omega) (by omega)
      have e2 := xws_at (cl := cl) (ca := ca) (ad := ad) (S := S) (M := M') (a := S + i) (by omega) (by omega)
      rw [show S + i - S = i by omega] at e1 e2
      rw [e1, e2, ho (S + i) (by omega)]
    · rw [List.getElem?_eq_none (by rw [xws_len]; omega), List.getElem?_eq_none (by rw [xws_len, hn]; omega)]
/-- the ground: what was there ahead of the first call -/
abbrev xG : Type := va_G × (Nat → ClassId) × Nat × (Nat × Nat × (Nat → Int32)) × Nat × (Nat → Nat) × (Nat → Nat)
/-- the JVM's heap holds what M says -/
def xRel (cl : List vw_C) (G : xG) (S : Nat) (K0 : Nat → Nat × Nat) (V0 : xF) (ad0 : Nat → Nat) (ad : Nat → Nat) (M : xM) (H : Heap) : Prop :=
  S ≤ M.2.2.2.2.1 ∧ va_P G.1 cl (xws cl G.2.1 ad S M) H ∧ va_D (fun q => G.2.2.1 ≤ q) (xws cl G.2.1 ad S M) ∧
  (∀ a i, r32 (M.1 a i)) ∧ (∀ a i, r64 (M.2.1 a i)) ∧ (∀ a i, M.2.2.1 a i < M.2.2.2.2.1) ∧
  (∀ a, S ≤ a → a < M.2.2.2.2.1 → xtag cl (M.2.2.2.1 a).1 ∧ (M.2.2.2.1 a).2 < 2147483648) ∧ (∀ a, M.2.2.2.2.1 ≤ a → M.2.2.2.1 a = (0, 0)) ∧
  (∀ a, a < S → M.2.2.2.1 a = K0 a ∧ (∀ i, M.1 a i = V0 a i) ∧ ad a = ad0 a)
def xRV (ad : Nat → Nat) (n : Nat) (v : Value) (x : xV) : Prop := match x with
  | .inl z => ∃ w : Int32, v = .int w ∧ w.toInt = z
  | .inr (.inl z) => ∃ w : Int64, v = .long w ∧ w.toInt = z
  | .inr (.inr r) => (r = 0 ∧ ∃ q, v = .ref q) ∨ (r ≠ 0 ∧ r < n ∧ v = .ref (ad r))
def xRS (ad : Nat → Nat) (n : Nat) : List Value → List xV → Prop
  | [], [] => True
  | v :: vs, x :: xs => xRV ad n v x ∧ xRS ad n vs xs
  | _, _ => False
def xRL (ad : Nat → Nat) (n nL : Nat) (ls : Array Slot) (als : List xV) : Prop :=
  als.length = nL ∧ ls.size = nL ∧ lv_wf ls ∧ ∀ (i : Nat) (x : xV), als[i]? = some x → x ≠ vr 0 → ∃ v : Value, ls[i]? = some (Slot.val v) ∧ xRV ad n v x
theorem xRV.grow {ad ad' : Nat → Nat} {n n' : Nat} {v : Value} {x : xV} (h : xRV ad n v x) (hn : n ≤ n') (ha : ∀ a, a < n → ad' a = ad a) : xRV ad' n' v x := by
  match x, h with
  | .inl z, h => exact h
  | .inr (.inl z), h => exact h
  | .inr (.inr r), Or.inl h => exact Or.inl h
  | .inr (.inr r), Or.inr ⟨h0, h1, h2⟩ => exact Or.inr ⟨h0, Nat.lt_of_lt_of_le h1 hn, by rw [ha r h1]; exact h2⟩
theorem xRS.grow {ad ad' : Nat → Nat} {n n' : Nat} (hn : n ≤ n') (ha : ∀ a, a < n → ad' a = ad a) : ∀ {vs : List Value} {xs : List xV}, xRS ad n vs xs → xRS ad' n' vs xs
  | [], [], _ => trivial
  | _ :: _, _ :: _, ⟨h1, h2⟩ => ⟨h1.grow hn ha, xRS.grow hn ha h2⟩
theorem xRL.grow {ad ad' : Nat → Nat} {n n' nL : Nat} {ls : Array Slot} {als : List xV} (h : xRL ad n nL ls als) (hn : n ≤ n') (ha : ∀ a, a < n → ad' a = ad a) : xRL ad' n' nL ls als := by
  obtain ⟨h1, h2, h3, h4⟩ := h
  refine ⟨h1, h2, h3, fun i x hx h0 => ?_⟩
  obtain ⟨v, e1, e2⟩ := h4 i x hx h0
  exact ⟨v, e1, e2.grow hn ha⟩
theorem xRV.cat {ad : Nat → Nat} {n : Nat} {v : Value} {x : xV} (h : xRV ad n v x) : v.category = xcat x := by
  match x, h with
  | .inl z, ⟨w, h, _⟩ => subst h; rfl
  | .inr (.inl z), ⟨w, h, _⟩ => subst h; rfl
  | .inr (.inr r), Or.inl ⟨_, q, h⟩ => subst h; rfl
  | .inr (.inr r), Or.inr ⟨_, _, h⟩ => subst h; rfl
theorem xRS.cats {ad : Nat → Nat} {n : Nat} : ∀ {vs : List Value} {xs : List xV}, xRS ad n vs xs → (vs.map fun v => v.category).sum = (xs.map xcat).sum
  | [], [], _ => rfl
  | _ :: _, _ :: _, ⟨h1, h2⟩ => by
    rw [List.map_cons, List.map_cons, List.sum_cons, List.sum_cons, h1.cat, h2.cats]
theorem xRS.len {ad : Nat → Nat} {n : Nat} : ∀ {vs : List Value} {xs : List xV}, xRS ad n vs xs → vs.length = xs.length
  | [], [], _ => rfl
  | _ :: _, _ :: _, ⟨_, h2⟩ => by rw [List.length_cons, List.length_cons, h2.len]
/-- what the locals hold, as a list of places and values -/
theorem xRL.list {ad : Nat → Nat} {n nL : Nat} {ls : Array Slot} {als : List xV} (h : xRL ad n nL ls als) :
    ∃ l : List (Nat × Value), lv_has ls nL l ∧ ∀ (j : Nat) (y : xV), als[j]? = some y → y ≠ vr 0 → ∃ w : Value, (j, w) ∈ l ∧ xRV ad n w y := by
  obtain ⟨h1, h2, h3, h4⟩ := h
  have hch : ∀ j : Nat, ∃ o : Option Value, (∀ w, o = some w → ls[j]? = some (Slot.val w)) ∧ ∀ y : xV, als[j]? = some y → y ≠ vr 0 → ∃ w : Value, o = some w ∧ xRV ad n w y := by
    intro j
    match hj : als[j]? with
    | none => exact ⟨none, (fun w hw => nomatch hw), (fun y hy => nomatch hy)⟩
    | some y =>
      by_cases h0 : y = vr 0
      · exact ⟨none, (fun w hw => nomatch hw), fun y' hy' h' => absurd (by cases hy'; exact h0) h'⟩
      · obtain ⟨w, e1, e2⟩ := h4 j y hj h0
        exact ⟨some w, fun w' hw' => by cases hw'; exact e1, fun y' hy' _ => by cases hy'; exact ⟨w, rfl, e2⟩⟩
  obtain ⟨o, ho⟩ := Classical.axiomOfChoice hch
  refine ⟨(List.range als.length).filterMap (fun j => (o j).map (fun w => (j, w))), ⟨h2, h3, fun q hq => ?_⟩, fun j y hj h0 => ?_⟩
  · obtain ⟨j, -, hj⟩ := List.mem_filterMap.mp hq
    cases hoj : o j with
    | none => rw [hoj] at hj; cases hj
    | some w => rw [hoj] at hj; cases hj; exact (ho j).1 w hoj
  · obtain ⟨w, e1, e2⟩ := (ho j).2 y hj h0
    have hl : j < als.length := (List.getElem?_eq_some_iff.mp hj).1
    exact ⟨w, List.mem_filterMap.mpr ⟨j, List.mem_range.mpr hl, by rw [e1]; rfl⟩, e2⟩
theorem xkill_len (als : List xV) (i : Nat) : (xkill als i).length = als.length := by
  unfold xkill
  split
  · rfl
  · split
    · rw [List.length_set]
    · rfl
theorem xkill_at {als : List xV} {i j : Nat} {y : xV} (hj : (xkill als i)[j]? = some y) (h0 : y ≠ vr 0) : als[j]? = some y ∧ (j + 1 = i → ¬ xcat y = 2) := by
  unfold xkill at hj
  match i, hj with
  | 0, hj => exact ⟨hj, fun e => by omega⟩
  | k + 1, hj =>
    dsimp only at hj
    split at hj
    · rename_i zz hk
      rw [List.getElem?_set] at hj
      by_cases hkj : k = j
      · subst hkj
        rw [if_pos rfl] at hj
        split at hj
        · cases hj; exact absurd rfl h0
        · cases hj
      · rw [if_neg hkj] at hj
        exact ⟨hj, fun e => by omega⟩
    · rename_i hk
      refine ⟨hj, fun e hc2 => ?_⟩
      have hjk : j = k := by omega
      subst hjk
      match y, hc2 with
      | .inr (.inl z), _ => exact hk z hj
/-- a local is stored: one slot -/
theorem xRL.set1 {ad : Nat → Nat} {n nL : Nat} {ls : Array Slot} {als : List xV} {i : Nat} {v : Value} {x : xV} (h : xRL ad n nL ls als) (hi : i < als.length) (hv : xRV ad n v x) (hc : v.category = 1) :
    ∃ ls', storeLocals ls i v = some ls' ∧ xRL ad n nL ls' (xset1 als i x) := by
  obtain ⟨l, hl, hmem⟩ := h.list
  obtain ⟨h1, h2, h3, h4⟩ := h
  obtain ⟨ls', e', h'⟩ := lv_store1 hl (i := i) (v := v) (by omega) hc
  refine ⟨ls', e', by unfold xset1; rw [List.length_set, xkill_len]; exact h1, h'.1, h'.2.1, fun j y hj h0 => ?_⟩
  unfold xset1 at hj
  rw [List.getElem?_set] at hj
  by_cases hij : i = j
  · subst hij
    rw [if_pos rfl, if_pos (by rw [xkill_len]; exact hi)] at hj
    cases hj
    exact ⟨v, h'.2.2 (i, v) List.mem_cons_self, hv⟩
  · rw [if_neg hij] at hj
    obtain ⟨hj, m3⟩ := xkill_at hj h0
    obtain ⟨w, m1, m2⟩ := hmem j y hj h0
    refine ⟨w, h'.2.2 (j, w) (List.mem_cons_of_mem _ (List.mem_filter.mpr ⟨m1, ?_⟩)), m2⟩
    by_cases e1 : j + 1 = i
    · have := m3 e1
      rw [← m2.cat] at this
      simp [Ne.symm hij, this]
    · simp [Ne.symm hij, e1]
/-- a local is stored: two slots -/
theorem xRL.set2 {ad : Nat → Nat} {n nL : Nat} {ls : Array Slot} {als : List xV} {i : Nat} {v : Value} {x : xV} (h : xRL ad n nL ls als) (hi : i + 1 < als.length) (hv : xRV ad n v x) (hc : v.category = 2) :
    ∃ ls', storeLocals ls i v = some ls' ∧ xRL ad n nL ls' (xset2 als i x) := by
  obtain ⟨l, hl, hmem⟩ := h.list
  obtain ⟨h1, h2, h3, h4⟩ := h
  obtain ⟨ls', e', h'⟩ := lv_store2 hl (i := i) (v := v) (by omega) hc
  refine ⟨ls', e', by unfold xset2; rw [List.length_set, List.length_set, xkill_len]; exact h1, h'.1, h'.2.1, fun j y hj h0 => ?_⟩
  unfold xset2 at hj
  rw [List.getElem?_set] at hj
  by_cases hij1 : i + 1 = j
  · subst hij1
    rw [if_pos rfl] at hj
    split at hj
    · cases hj; exact absurd rfl h0
    · cases hj
  rw [if_neg hij1, List.getElem?_set] at hj
  by_cases hij : i = j
  · subst hij
    rw [if_pos rfl, if_pos (by rw [xkill_len]; omega)] at hj
    cases hj
    exact ⟨v, h'.2.2 (i, v) List.mem_cons_self, hv⟩
  · rw [if_neg hij] at hj
    obtain ⟨hj, m3⟩ := xkill_at hj h0
    obtain ⟨w, m1, m2⟩ := hmem j y hj h0
    refine ⟨w, h'.2.2 (j, w) (List.mem_cons_of_mem _ (List.mem_filter.mpr ⟨m1, ?_⟩)), m2⟩
    by_cases e1 : j + 1 = i
    · have := m3 e1
      rw [← m2.cat] at this
      simp [Ne.symm hij, Ne.symm hij1, this]
    · simp [Ne.symm hij, Ne.symm hij1, e1]
/-- a number among the locals grows -/
theorem xRL.inc {ad : Nat → Nat} {n nL : Nat} {ls : Array Slot} {als : List xV} {i : Nat} {v : Value} {x y : xV} (h : xRL ad n nL ls als) (hi : als[i]? = some y) (hy : y ≠ vr 0) (hy1 : xcat y = 1) (hv : xRV ad n v x) (hc : v.category = 1) :
    ∃ ls', storeLocals ls i v = some ls' ∧ xRL ad n nL ls' (als.set i x) := by
  obtain ⟨l, hl, hmem⟩ := h.list
  obtain ⟨h1, h2, h3, h4⟩ := h
  have hil : i < als.length := (List.getElem?_eq_some_iff.mp hi).1
  obtain ⟨ls', e', h'⟩ := lv_store1 hl (i := i) (v := v) (by omega) hc
  refine ⟨ls', e', by rw [List.length_set]; exact h1, h'.1, h'.2.1, fun j y1 hj h0 => ?_⟩
  rw [List.getElem?_set] at hj
  by_cases hij : i = j
  · subst hij
    rw [if_pos rfl, if_pos hil] at hj
    cases hj
    exact ⟨v, h'.2.2 (i, v) List.mem_cons_self, hv⟩
  · rw [if_neg hij] at hj
    obtain ⟨w, m1, m2⟩ := hmem j y1 hj h0
    refine ⟨w, h'.2.2 (j, w) (List.mem_cons_of_mem _ (List.mem_filter.mpr ⟨m1, ?_⟩)), m2⟩
    by_cases e1 : j + 1 = i
    · -- the one ahead of a value of one slot is no long: its second half stands at i
      have : ¬ w.category = 2 := fun hc2 => by
        obtain ⟨u, g1, g2⟩ := h4 i y hi hy
        have g3 := h3.1 j w (by obtain ⟨v9, g8, g9⟩ := h4 j y1 hj h0; have := hl.2.2 (j, w) m1; exact this) hc2
        rw [e1, g1] at g3
        cases g3
      simp [Ne.symm hij, this]
    · simp [Ne.symm hij, e1]
