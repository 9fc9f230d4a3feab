/-! ===== THE LAW OBJECT, ITS CODE RUNS ===== -/
abbrev fcC (V : xF) : Nat → Int := fun k => V 394 k
abbrev stC (V : xF) : Bool := decide (V 394 5 = 0)
abbrev opC (V : xF) : Bool := decide (V 394 8 ≠ 0)
def AR (D : yD) (L j n : Nat) : Prop := yR D.2.1 D.2.2.1 L j ≠ 0 ∧ (20 ≤ (yK D.2.2.1 (yR D.2.1 D.2.2.1 L j)).1 ∧ (yK D.2.2.1 (yR D.2.1 D.2.2.1 L j)).1 ≤ 21) ∧ n ≤ (yK D.2.2.1 (yR D.2.1 D.2.2.1 L j)).2 ∧ 421 ≤ yR D.2.1 D.2.2.1 L j
def LRows (V : xF) (D : yD) (L : Nat) (ls : List Ln) : Prop := V L 0 = (ls.length : Int) ∧ AR D L 1 ls.length ∧ AR D L 2 ls.length ∧ AR D L 3 ls.length ∧ AR D L 4 (ofA ls ls.length) ∧ LAr (V (yR D.2.1 D.2.2.1 L 1)) (V (yR D.2.1 D.2.2.1 L 2)) (V (yR D.2.1 D.2.2.1 L 3)) (V (yR D.2.1 D.2.2.1 L 4)) ls
/-- the law object at L says the lines ls -/
def LO (V : xF) (D : yD) (L : Nat) (ls : List Ln) : Prop := L ≠ 0 ∧ (yK D.2.2.1 L).1 = 3 ∧ (∀ x ∈ ls, lnOK x) ∧ ls.length ≤ 12 ∧ ofA ls ls.length ≤ 800 ∧ (L = 71 ∧ V L 0 ≤ 0 ∧ ls = [] ∨ 421 ≤ L ∧ LRows V D L ls)
theorem lnA_mem {ls : List Ln} {k : Nat} (hk : k < ls.length) : lnA ls k ∈ ls := by
  unfold lnA
  rw [List.getD_eq_getElem?_getD, List.getElem?_eq_getElem hk]
  exact List.getElem_mem hk
section RUNS
variable {V : xF} {D : yD} {L : Nat} {ls : List Ln}
theorem LO.cnt (h : LO V D L ls) : (ls.length : Int) = if V L 0 ≤ 0 then 0 else V L 0 := by
  obtain ⟨_, _, _, _, _, h⟩ := h
  rcases h with ⟨_, h, rfl⟩ | ⟨_, h⟩
  · rw [if_pos h]; rfl
  · have := h.1
    split <;> omega
theorem LO.cor {V' : xF} (h : LO V D L ls) (hC : ∀ a, a = 71 ∨ 421 ≤ a → V' a = V a) : LO V' D L ls := by
  obtain ⟨h1, h2, h3, h4, h5, h⟩ := h
  refine ⟨h1, h2, h3, h4, h5, ?_⟩
  rcases h with ⟨e, h, h'⟩ | ⟨h6, h⟩
  · exact Or.inl ⟨e, by rw [hC L (Or.inl e)]; exact h, h'⟩
  · obtain ⟨r0, r1, r2, r3, r4, rA⟩ := h
    refine Or.inr ⟨h6, by rw [hC L (Or.inr h6)]; exact r0, r1, r2, r3, r4, ?_⟩
    rw [hC _ (Or.inr r1.2.2.2), hC _ (Or.inr r2.2.2.2), hC _ (Or.inr r3.2.2.2), hC _ (Or.inr r4.2.2.2)]
    exact rA
theorem LO.rows (h : LO V D L ls) {k : Nat} (hk : k < ls.length) : LRows V D L ls := by
  obtain ⟨_, _, _, _, _, h⟩ := h
  rcases h with ⟨_, _, rfl⟩ | ⟨_, h⟩
  · exact absurd hk (Nat.not_lt_zero _)
  · exact h
def hdS (s : List Bool) : Bool := match s with
  | a :: _ => a
  | [] => true
theorem c_run (hL : LO V D L ls) {k : Nat} (hk : k < ls.length) {d : Nat} {Q : xRes → xF → yD → Prop} : ∀ (l : List Int) (q : Nat) (s : List Bool) (u lf i6 : Int) (v7 : xV), (lnA ls k).2.2.drop q = l → q ≤ (lnA ls k).2.2.length → i6 = ((ofA ls k + q : Nat) : Int) → evOK (fcC V) (stC V) (opC V) l (s, u, lf) → 1 ≤ (evL (fcC V) (stC V) (opC V) l (s, u, lf)).1.length → Q (.inl (some (vi (if hdS (evL (fcC V) (stC V) (opC V) l (s, u, lf)).1 = true then 1 else 0)))) V D → RY d 364 26 [vr L, vi (k : Int), vr 394, vi (enc s), vi u, vi lf, vi i6, v7] [] V D Q := by
  obtain ⟨r0, r1, r2, r3, r4, rA⟩ := hL.rows hk
  obtain ⟨l0, l3, lo, l12, l800, _⟩ := hL
  obtain ⟨a1, a2, a3, a4⟩ := rA k hk
  have hs := ofA_succ hk
  have hm := ofA_mono (ls := ls) (k := k + 1) (by omega)
  intro l
  induction l with
  | nil =>
    intro q s u lf i6 v7 hq hql hi ok hl hQ
    have hqe : q = (lnA ls k).2.2.length := by
      have := congrArg List.length hq
      rw [List.length_drop] at this
      have h0 : ([] : List Int).length = 0 := rfl
      omega
    refine u_364_26 ⟨l0, l3, r3.1, r3.2.1, ⟨by omega, by have := r3.2.2; omega⟩, fun _ => ?_, fun h => ?_⟩
    · match s, ok, hl, hQ with
      | [], ok, hl, hQ => exact absurd (show 1 ≤ 0 from hl) (by decide)
      | a :: s, ok, hl, hQ =>
        have e := e_low (s := s) (a := a) (by have h1 : s.length + 1 ≤ 20 := ok; omega)
        have hQ : Q (.inl (some (vi (if a = true then 1 else 0)))) V D := hQ
        rw [e]
        cases a
        · exact ⟨fun _ => hQ, fun h => absurd h (by decide)⟩
        · exact ⟨fun h => absurd rfl h, fun _ => hQ⟩
    · rw [nn_toNat, a3] at h
      omega
  | cons c l ih =>
    intro q s u lf i6 v7 hq hql hi ok hl hQ
    have hlt : q < (lnA ls k).2.2.length := by
      have := congrArg List.length hq
      rw [List.length_drop] at this
      have h0 : (c :: l).length = l.length + 1 := rfl
      omega
    have hd := List.drop_eq_getElem_cons hlt
    rw [hq] at hd
    have hc : c = (lnA ls k).2.2[q] := (List.cons.inj hd).1
    have hl' : (lnA ls k).2.2.drop (q + 1) = l := (List.cons.inj hd).2.symm
    have hV : V (yR D.2.1 D.2.2.1 L 4) i6.toNat = c := by
      rw [hi, nn_toNat, a4 q hlt, List.getD_eq_getElem?_getD, List.getElem?_eq_getElem hlt, hc]
      rfl
    obtain ⟨o1, o6, o7, o8, ok⟩ := ok
    have hw : wr (i6 + 1) = ((ofA ls k + (q + 1) : Nat) : Int) := by
      rw [wr_id (by omega) (by omega)]; omega
    have next : ∀ (s' : List Bool) (u' lf' : Int) (v7' : Int), evC (fcC V) (stC V) (opC V) c (s, u, lf) = (s', u', lf') → RY d 364 247 [vr L, vi (k : Int), vr 394, vi (enc s'), vi u', vi lf', vi i6, vi v7'] [] V D Q := by
      intro s' u' lf' v7' e
      rw [evL_cons, e] at hl hQ
      rw [e] at ok
      exact u_364_247 (ih (q + 1) s' u' lf' (wr (i6 + 1)) (vi v7') hl' (by omega) hw ok hl hQ)
    have push : ∀ (a : Bool) (z : Int), z = (if a = true then 1 else 0) → xor_ (xshl (enc s) 1) z = enc (a :: s) := fun a z hz => by rw [hz]; exact e_push o1
    clear hw
    refine u_364_26 ⟨l0, l3, r3.1, r3.2.1, ⟨by omega, by have := r3.2.2; omega⟩, fun h => ?_, fun _ => ⟨l0, l3, r4.1, r4.2.1, ⟨by omega, by have := r4.2.2; omega⟩, ?_⟩⟩
    · rw [nn_toNat, a3] at h
      omega
    · rw [hV]
      refine ⟨⟨fun e => ?_, fun e => ?_, fun e => ?_, fun e => ?_, fun e => ?_, fun e => ?_, fun e => ?_, fun e => ?_, trivial⟩, fun e => ?_⟩
      · subst e
        have h2 : 2 ≤ s.length := o7 (Or.inr rfl)
        match s, h2, o1, next with
        | a :: e :: s, h2, o1, next =>
          have h3 : s.length + 1 + 1 ≤ 20 := o1
          rw [e_or (by omega)]
          exact next _ _ _ _ rfl
      · subst e
        have h2 : 2 ≤ s.length := o7 (Or.inl rfl)
        match s, h2, o1, next with
        | a :: e :: s, h2, o1, next =>
          have h3 : s.length + 1 + 1 ≤ 20 := o1
          rw [e_and (by omega)]
          exact next _ _ _ _ rfl
      · subst e
        have h2 : 1 ≤ s.length := o6 rfl
        match s, h2, o1, next with
        | a :: s, h2, o1, next =>
          have h3 : s.length + 1 ≤ 20 := o1
          rw [e_not (by omega)]
          exact next _ _ _ _ rfl
      · subst e
        have e0 : evC (fcC V) (stC V) (opC V) (-5) (s, u, lf) = (opC V :: s, u, lf) := rfl
        refine ⟨fun h => u_364_188 ?_, fun h => u_364_188 ?_⟩
        · have : opC V = false := by show decide (V 394 8 ≠ 0) = false; rw [decide_eq_false_iff_not]; omega
          rw [push false 0 rfl]
          exact next (false :: s) u lf _ (by rw [e0, this])
        · have : opC V = true := by show decide (V 394 8 ≠ 0) = true; rw [decide_eq_true_iff]; omega
          rw [push true 1 rfl]
          exact next (true :: s) u lf _ (by rw [e0, this])
      · subst e
        have e0 : evC (fcC V) (stC V) (opC V) (-4) (s, u, lf) = (stC V :: s, u, lf) := rfl
        refine ⟨fun h => u_364_168 ?_, fun h => u_364_168 ?_⟩
        · have : stC V = false := by show decide (V 394 5 = 0) = false; rw [decide_eq_false_iff_not]; omega
          rw [push false 0 rfl]
          exact next (false :: s) u lf _ (by rw [e0, this])
        · have : stC V = true := by show decide (V 394 5 = 0) = true; rw [decide_eq_true_iff]; omega
          rw [push true 1 rfl]
          exact next (true :: s) u lf _ (by rw [e0, this])
      · subst e
        have e0 : evC (fcC V) (stC V) (opC V) (-3) (s, u, lf) = (decide (u < lf) :: s, 0, lf) := rfl
        refine ⟨fun h => u_364_146 ?_, fun h => u_364_146 ?_⟩
        · rw [decide_eq_false (show ¬ u < lf by omega)] at e0
          rw [push false 0 rfl]
          exact next _ _ _ _ e0
        · rw [decide_eq_true h] at e0
          rw [push true 1 rfl]
          exact next _ _ _ _ e0
      · subst e
        have e0 : evC (fcC V) (stC V) (opC V) (-2) (s, u, lf) = (decide (lf < u) :: s, 0, lf) := rfl
        refine ⟨fun h => u_364_123 ?_, fun h => u_364_123 ?_⟩
        · rw [decide_eq_false (show ¬ lf < u by omega)] at e0
          rw [push false 0 rfl]
          exact next _ _ _ _ e0
        · rw [decide_eq_true h] at e0
          rw [push true 1 rfl]
          exact next _ _ _ _ e0
      · subst e
        exact next _ _ _ _ rfl
      · have hc0 : 0 ≤ c := by omega
        have e0 := evC_part (F := fcC V) (st := stC V) (op := opC V) (s := s) (u := u) (lf := lf) hc0
        refine ⟨fun h => ?_, fun h => ?_⟩
        · rw [if_neg (by omega)] at e0
          have : wr (c - 1000) = c - 1000 := wr_id (by omega) (by omega)
          rw [this]
          exact ⟨⟨by omega, by omega⟩, next _ _ _ _ e0⟩
        · rw [if_pos h] at e0
          exact next _ _ _ _ e0
theorem c_holds (hL : LO V D L ls) {k : Nat} (hk : k < ls.length) {d : Nat} {Q : xRes → xF → yD → Prop} (h : Q (.inl (some (vi (if hdE (fcC V) (stC V) (opC V) (lnA ls k).2.2 = true then 1 else 0)))) V D) : RY d 364 0 [vr L, vi (k : Int), vr 394, vr 0, vr 0, vr 0, vr 0, vr 0] [] V D Q := by
  have hrow := hL.rows hk
  obtain ⟨r0, r1, r2, r3, r4, rA⟩ := id hrow
  obtain ⟨l0, l3, lo, l12, l800, _⟩ := id hL
  have ok := (lo _ (lnA_mem hk)).2.2 (fcC V) (stC V) (opC V)
  have go : ∀ i6 : Int, i6 = ((ofA ls k + 0 : Nat) : Int) → RY d 364 26 [vr L, vi (k : Int), vr 394, vi 1, vi 0, vi 0, vi i6, vr 0] [] V D Q := fun i6 hi => c_run hL hk _ 0 [true] 0 0 i6 (vr 0) (List.drop_zero ..) (Nat.zero_le _) hi ok.1 ok.2 h
  refine u_364_0 ⟨fun h0 => ?_, fun h0 => ?_⟩
  · have hk1 : 1 ≤ k := by omega
    have e : wr ((k : Int) - 1) = ((k - 1 : Nat) : Int) := by rw [wr_id (by omega) (by omega)]; omega
    rw [e, nn_toNat]
    refine ⟨l0, l3, r3.1, r3.2.1, ⟨by omega, by have := r3.2.2; clear e; omega⟩, go _ ?_⟩
    have := (rA (k - 1) (by clear e; omega)).2.2.1
    rw [this, show k - 1 + 1 = k by clear e; omega]
    rfl
  · have hk0 : k = 0 := by omega
    subst hk0
    exact go 0 (by show (0 : Int) = ((ofA ls 0 + 0 : Nat) : Int); unfold ofA; rfl)
/-! ===== what is liked, what is refused ===== -/
def balX (F : Nat → Int) (st op : Bool) (x : Ln) : Int := if x.1 ≠ 2 ∧ hdE F st op x.2.2 = true then (if x.1 = 0 then x.2.1 else -x.2.1) else 0
def balZ (F : Nat → Int) (st op : Bool) : List Ln → Int
  | [] => 0
  | x :: ls => balX F st op x + balZ F st op ls
def refB (F : Nat → Int) (st op : Bool) : List Ln → Bool
  | [] => false
  | x :: ls => (decide (x.1 = 2) && hdE F st op x.2.2) || refB F st op ls
theorem balX_b {F : Nat → Int} {st op : Bool} {x : Ln} (h : lnOK x) : -50 ≤ balX F st op x ∧ balX F st op x ≤ 50 := by
  have := h.2.1
  unfold balX
  (repeat' split) <;> omega
theorem balZ_b {F : Nat → Int} {st op : Bool} : ∀ {ls : List Ln}, (∀ x ∈ ls, lnOK x) → -50 * (ls.length : Int) ≤ balZ F st op ls ∧ balZ F st op ls ≤ 50 * (ls.length : Int)
  | [], _ => by
    show -50 * ((0 : Nat) : Int) ≤ 0 ∧ (0 : Int) ≤ 50 * ((0 : Nat) : Int)
    omega
  | x :: ls, h => by
    have := balX_b (F := F) (st := st) (op := op) (h x (List.mem_cons_self ..))
    have := balZ_b (F := F) (st := st) (op := op) (ls := ls) (fun y hy => h y (List.mem_cons_of_mem _ hy))
    have e : (x :: ls).length = ls.length + 1 := rfl
    show _ ≤ balX F st op x + balZ F st op ls ∧ balX F st op x + balZ F st op ls ≤ _
    rw [e]
    omega
theorem lsE_z {F : Nat → Int} {st op : Bool} {ls : List Ln} : ∀ {r z : Int}, (∀ x ∈ ls, lnOK x) → (r = 0 ∨ r = 1) → -1000000 + 50 * (ls.length : Int) ≤ z → z ≤ 1000000 - 50 * (ls.length : Int) → lsE F st op ls (r, z) = (if r = 1 ∨ refB F st op ls = true then 1 else 0, z + balZ F st op ls) := by
  induction ls with
  | nil =>
    intro r z _ hr _ _
    show (r, z) = (if r = 1 ∨ false = true then 1 else 0, z + 0)
    rw [Int.add_zero]
    rcases hr with rfl | rfl <;> rfl
  | cons x ls ih =>
    intro r z h hr h1 h2
    have e : (x :: ls).length = ls.length + 1 := rfl
    rw [e] at h1 h2
    have hx := h x (List.mem_cons_self ..)
    have hls : ∀ y ∈ ls, lnOK y := fun y hy => h y (List.mem_cons_of_mem _ hy)
    have hw := hx.2.1
    show lsE F st op ls (lnE F st op (r, z) x) = (if r = 1 ∨ ((decide (x.1 = 2) && hdE F st op x.2.2) || refB F st op ls) = true then 1 else 0, z + (balX F st op x + balZ F st op ls))
    unfold lnE balX
    by_cases hh : hdE F st op x.2.2 = true
    · rw [if_pos hh]
      have ew : wr (z + (if x.1 = 0 then x.2.1 else -x.2.1)) = z + (if x.1 = 0 then x.2.1 else -x.2.1) := wr_id (by split <;> omega) (by split <;> omega)
      show lsE F st op ls (_, wr (z + _)) = _
      rw [ew]
      clear ew
      rw [ih hls (by split <;> omega) (by split <;> omega) (by split <;> omega)]
      rw [hh]
      refine Prod.ext ?_ ?_
      · show (if (if r ≠ 0 ∨ x.1 = 2 then (1 : Int) else 0) = 1 ∨ _ then (1 : Int) else 0) = if r = 1 ∨ _ then 1 else 0
        by_cases e2 : x.1 = 2
        · rw [if_pos (Or.inr e2 : r ≠ 0 ∨ x.1 = 2), decide_eq_true e2]
          rw [if_pos (Or.inl rfl), if_pos (Or.inr (show (true && true || refB F st op ls) = true from rfl))]
        · rw [decide_eq_false e2]
          rcases hr with rfl | rfl
          · rw [if_neg (show ¬ ((0 : Int) ≠ 0 ∨ x.1 = 2) by omega)]
            rfl
          · rw [if_pos (show (1 : Int) ≠ 0 ∨ x.1 = 2 from Or.inl (by decide)), if_pos (Or.inl rfl), if_pos (Or.inl rfl)]
      · show z + (if x.1 = 0 then x.2.1 else -x.2.1) + balZ F st op ls = z + ((if x.1 ≠ 2 ∧ true = true then (if x.1 = 0 then x.2.1 else -x.2.1) else 0) + balZ F st op ls)
        by_cases e2 : x.1 = 2
        · rw [if_neg (show ¬ x.1 = 0 by omega), if_neg (show ¬ (x.1 ≠ 2 ∧ true = true) from fun g => g.1 e2)]
          have := hw.2.2 e2
          omega
        · rw [if_pos (show x.1 ≠ 2 ∧ true = true from ⟨e2, rfl⟩)]
          omega
    · rw [if_neg hh, ih hls hr (by omega) (by omega), if_neg (show ¬ (x.1 ≠ 2 ∧ hdE F st op x.2.2 = true) from fun g => hh g.2)]
      rw [Bool.not_eq_true] at hh
      rw [hh, Bool.and_false, Bool.false_or, Int.zero_add]
theorem refB_iff {F : Nat → Int} {st op : Bool} : ∀ {ls : List Ln}, refB F st op ls = true ↔ ∃ k, k < ls.length ∧ (lnA ls k).1 = 2 ∧ hdE F st op (lnA ls k).2.2 = true
  | [] => ⟨fun h => (nomatch h), fun ⟨_, h, _⟩ => absurd h (Nat.not_lt_zero _)⟩
  | x :: ls => by
    show ((decide (x.1 = 2) && hdE F st op x.2.2) || refB F st op ls) = true ↔ _
    rw [Bool.or_eq_true, Bool.and_eq_true, decide_eq_true_iff, refB_iff]
    constructor
    · rintro (h | ⟨k, h1, h2⟩)
      · exact ⟨0, Nat.succ_pos _, h⟩
      · exact ⟨k + 1, Nat.succ_lt_succ h1, h2⟩
    · rintro ⟨k, h1, h2⟩
      cases k with
      | zero => exact Or.inl h2
      | succ k => exact Or.inr ⟨k, Nat.lt_of_succ_lt_succ h1, h2⟩
theorem balZ_drop {F : Nat → Int} {st op : Bool} {ls : List Ln} {k : Nat} (hk : k < ls.length) : balZ F st op (ls.drop k) = balX F st op (lnA ls k) + balZ F st op (ls.drop (k + 1)) := by
  rw [List.drop_eq_getElem_cons hk]
  unfold lnA
  rw [List.getD_eq_getElem?_getD, List.getElem?_eq_getElem hk]
  rfl
theorem c_balance (hL : LO V D L ls) {d : Nat} {Q : xRes → xF → yD → Prop} (h : Q (.inl (some (vi (balZ (fcC V) (stC V) (opC V) ls)))) V D) : RY d 320 0 [vr L, vr 394, vr 0, vr 0] [] V D Q := by
  obtain ⟨l0, l3, lo, l12, l800, _⟩ := id hL
  have hcnt := hL.cnt
  refine u_320_0 ?_
  have go : ∀ (n k : Nat) (z : Int), n + k = ls.length → z + balZ (fcC V) (stC V) (opC V) (ls.drop k) = balZ (fcC V) (stC V) (opC V) ls → -50 * (k : Int) ≤ z → z ≤ 50 * (k : Int) → RY d 320 4 [vr L, vr 394, vi z, vi (k : Int)] [] V D Q := by
    intro n
    induction n with
    | zero =>
      intro k z hk hz h1 h2
      have hk : k = ls.length := by omega
      subst hk
      refine u_320_4 ⟨l0, l3, fun _ => ?_, fun hlt => ?_⟩
      · rw [List.drop_length] at hz
        have hz : z + 0 = _ := hz
        rw [Int.add_zero] at hz
        rw [hz]; exact h
      · split at hcnt <;> omega
    | succ n ih =>
      intro k z hk hz h1 h2
      have hkl : k < ls.length := by omega
      obtain ⟨r0, r1, r2, r3, r4, rA⟩ := hL.rows hkl
      obtain ⟨a1, a2, a3, a4⟩ := rA k hkl
      rw [balZ_drop hkl] at hz
      have hx := lo _ (lnA_mem hkl)
      have hxb := balX_b (F := fcC V) (st := stC V) (op := opC V) hx
      have hw := hx.2.1
      have e : wr ((k : Int) + 1) = ((k + 1 : Nat) : Int) := by rw [wr_id (by omega) (by omega)]; omega
      have step : ∀ z', z' = z + balX (fcC V) (stC V) (opC V) (lnA ls k) → RY d 320 4 [vr L, vr 394, vi z', vi (wr ((k : Int) + 1))] [] V D Q := by
        intro z' hz'
        rw [e]
        clear e
        exact ih (k + 1) z' (by omega) (by omega) (by omega) (by omega)
      clear e
      refine u_320_4 ⟨l0, l3, fun hle => ?_, fun _ => ⟨l0, l3, r1.1, r1.2.1, ⟨by omega, by have := r1.2.2; omega⟩, fun hkd => ?_, fun hkd => ⟨l0, l3, ?_⟩⟩⟩
      · split at hcnt <;> omega
      · rw [nn_toNat, a1] at hkd
        refine step z ?_
        unfold balX
        rw [if_neg (fun g => g.1 hkd)]
        omega
      · rw [nn_toNat, a1] at hkd
        refine c_holds hL hkl ?_
        show RY d 320 28 _ _ V D Q
        refine u_320_28 ⟨fun h0 => ?_, fun h1 => ⟨l0, l3, r1.1, r1.2.1, ⟨by omega, by have := r1.2.2; omega⟩, fun hkz => ⟨l0, l3, r2.1, r2.2.1, ⟨by omega, by have := r2.2.2; omega⟩, ?_⟩, fun hkz => ⟨l0, l3, r2.1, r2.2.1, ⟨by omega, by have := r2.2.2; omega⟩, ?_⟩⟩⟩
        · have hne : ¬ hdE (fcC V) (stC V) (opC V) (lnA ls k).2.2 = true := fun g => by rw [if_pos g] at h0; exact absurd h0 (by decide)
          refine step z ?_
          unfold balX
          rw [if_neg (fun g => hne g.2)]
          omega
        · have hy : hdE (fcC V) (stC V) (opC V) (lnA ls k).2.2 = true := Classical.byContradiction fun g => h1 (if_neg g)
          rw [nn_toNat, a1] at hkz
          rw [nn_toNat, a2 hkd]
          have e1 : wr (z + wr (-(lnA ls k).2.1)) = z + -(lnA ls k).2.1 := by
            rw [wr_id (x := -(lnA ls k).2.1) (by omega) (by omega), wr_id (by omega) (by omega)]
          refine step _ ?_
          rw [e1]
          unfold balX
          rw [if_pos ⟨hkd, hy⟩, if_neg hkz]
        · have hy : hdE (fcC V) (stC V) (opC V) (lnA ls k).2.2 = true := Classical.byContradiction fun g => h1 (if_neg g)
          rw [nn_toNat, a1] at hkz
          rw [nn_toNat, a2 hkd]
          have e1 : wr (z + (lnA ls k).2.1) = z + (lnA ls k).2.1 := by
            rw [wr_id (by omega) (by omega)]
          refine step _ ?_
          rw [e1]
          unfold balX
          rw [if_pos ⟨hkd, hy⟩, if_pos hkz]
  exact go ls.length 0 0 (by omega) (by show 0 + balZ _ _ _ ls = _; omega) (by decide) (by decide)
theorem c_forbids (hL : LO V D L ls) {d : Nat} {Q : xRes → xF → yD → Prop} (h : Q (.inl (some (vi (if refB (fcC V) (stC V) (opC V) ls = true then 1 else 0)))) V D) : RY d 321 0 [vr L, vr 394, vr 0] [] V D Q := by
  obtain ⟨l0, l3, lo, l12, l800, _⟩ := id hL
  have hcnt := hL.cnt
  refine u_321_0 ?_
  have go : ∀ (n k : Nat), n + k = ls.length → (∀ j, j < k → ¬ ((lnA ls j).1 = 2 ∧ hdE (fcC V) (stC V) (opC V) (lnA ls j).2.2 = true)) → RY d 321 2 [vr L, vr 394, vi (k : Int)] [] V D Q := by
    intro n
    induction n with
    | zero =>
      intro k hk hno
      have hk : k = ls.length := by omega
      subst hk
      refine u_321_2 ⟨l0, l3, fun _ => ?_, fun hlt => ?_⟩
      · rw [if_neg (fun g => by
          obtain ⟨j, j1, j2⟩ := refB_iff.mp g
          exact hno j j1 j2)] at h
        exact h
      · split at hcnt <;> omega
    | succ n ih =>
      intro k hk hno
      have hkl : k < ls.length := by omega
      obtain ⟨r0, r1, r2, r3, r4, rA⟩ := hL.rows hkl
      obtain ⟨a1, a2, a3, a4⟩ := rA k hkl
      have e : wr ((k : Int) + 1) = ((k + 1 : Nat) : Int) := by rw [wr_id (by omega) (by omega)]; omega
      have step : ¬ ((lnA ls k).1 = 2 ∧ hdE (fcC V) (stC V) (opC V) (lnA ls k).2.2 = true) → RY d 321 2 [vr L, vr 394, vi (wr ((k : Int) + 1))] [] V D Q := by
        intro hz'
        rw [e]
        clear e
        refine ih (k + 1) (by omega) fun j hj => ?_
        by_cases ej : j = k
        · rw [ej]; exact hz'
        · exact hno j (by omega)
      clear e
      refine u_321_2 ⟨l0, l3, fun hle => ?_, fun _ => ⟨l0, l3, r1.1, r1.2.1, ⟨by omega, by have := r1.2.2; omega⟩, fun hkd => ?_, fun hkd => ⟨l0, l3, ?_⟩⟩⟩
      · split at hcnt <;> omega
      · rw [nn_toNat, a1] at hkd
        exact step fun g => hkd g.1
      · rw [nn_toNat, a1] at hkd
        refine c_holds hL hkl ?_
        show RY d 321 26 _ _ V D Q
        refine u_321_26 ⟨fun h0 => ?_, fun h1 => ?_⟩
        · exact step fun g => by rw [if_pos g.2] at h0; exact absurd h0 (by decide)
        · have hy : hdE (fcC V) (stC V) (opC V) (lnA ls k).2.2 = true := Classical.byContradiction fun g => h1 (if_neg g)
          rw [if_pos (refB_iff.mpr ⟨k, hkl, hkd, hy⟩)] at h
          exact h
  exact go ls.length 0 (by omega) (fun j hj => absurd hj (Nat.not_lt_zero _))
end RUNS
