/-! ===== THE CONSTRUCTORS, RUN ON LISTS ===== -/
/-- ints and references that were put down, kinds (the latest first), next, cells, slots -/
abbrev cM : Type := List (Nat × Nat × Int) × List (Nat × Nat × Nat) × List (Nat × Nat) × Nat × Nat × Nat
def cV (V0 : xF) : List (Nat × Nat × Int) → xF
  | [] => V0
  | e :: w => up2 (cV V0 w) e.1 e.2.1 e.2.2
def cR : List (Nat × Nat × Nat) → xR
  | [] => fun _ _ => 0
  | e :: r => up2 (cR r) e.1 e.2.1 e.2.2
def cK (K0 : Nat → Nat × Nat) : List (Nat × Nat) → Nat → Nat × Nat
  | [] => K0
  | x :: k => up1 (cK K0 k) (70 + k.length) x
def cZ : xF := fun _ _ => 0
def cden (V0 : xF) (K0 : Nat → Nat × Nat) (C : cM) : xM := (cV V0 C.1, cZ, cR C.2.1, cK K0 C.2.2.1, C.2.2.2.1, C.2.2.2.2.1, C.2.2.2.2.2)
def cOK (C : cM) : Prop := C.2.2.2.1 = 70 + C.2.2.1.length ∧ (∀ e ∈ C.1, e.1 < C.2.2.2.1) ∧ (∀ e ∈ C.2.1, e.1 < C.2.2.2.1)
/-- the kind of a made one -/
def gK (C : cM) (a : Nat) : Nat × Nat := match Nat.ble 70 a, Nat.blt a C.2.2.2.1 with
  | true, true => C.2.2.1.getD (C.2.2.2.1 - 1 - a) (0, 0)
  | _, _ => (0, 0)
def gR : List (Nat × Nat × Nat) → Nat → Nat → Nat
  | [], _, _ => 0
  | e :: r, a, j => match Nat.beq a e.1, Nat.beq j e.2.1 with
    | true, true => e.2.2
    | _, _ => gR r a j
def gV : List (Nat × Nat × Int) → Nat → Nat → Int
  | [], _, _ => 0
  | e :: w, a, j => match Nat.beq a e.1, Nat.beq j e.2.1 with
    | true, true => e.2.2
    | _, _ => gV w a j
theorem gR_eq {a j : Nat} : ∀ r, cR r a j = gR r a j
  | [] => rfl
  | e :: r => by
    unfold cR gR up2
    cases h1 : Nat.beq a e.1 <;> cases h2 : Nat.beq j e.2.1
    case true.true => rw [if_pos ⟨Nat.eq_of_beq_eq_true h1, Nat.eq_of_beq_eq_true h2⟩]
    all_goals
      rw [if_neg]
      · exact gR_eq r
      · rintro ⟨e1, e2⟩
        subst e1
        subst e2
        have q1 : ∀ n : Nat, Nat.beq n n = true := fun n => Nat.beq_refl n
        simp [q1] at h1 h2
theorem gV_eq {V0 : xF} {a j : Nat} (h0 : V0 a j = 0) : ∀ w, cV V0 w a j = gV w a j
  | [] => h0
  | e :: w => by
    unfold cV gV up2
    cases h1 : Nat.beq a e.1 <;> cases h2 : Nat.beq j e.2.1
    case true.true => rw [if_pos ⟨Nat.eq_of_beq_eq_true h1, Nat.eq_of_beq_eq_true h2⟩]
    all_goals
      rw [if_neg]
      · exact gV_eq h0 w
      · rintro ⟨e1, e2⟩
        subst e1
        subst e2
        have q1 : ∀ n : Nat, Nat.beq n n = true := fun n => Nat.beq_refl n
        simp [q1] at h1 h2
theorem cV_row {V0 : xF} {a : Nat} : ∀ w : List (Nat × Nat × Int), (∀ e ∈ w, e.1 ≠ a) → cV V0 w a = V0 a
  | [], _ => rfl
  | e :: w, h => by
    unfold cV
    rw [up2_na (fun e' => h e List.mem_cons_self e'.symm)]
    exact cV_row w (fun q hq => h q (List.mem_cons_of_mem _ hq))
theorem cR_row {a : Nat} : ∀ r : List (Nat × Nat × Nat), (∀ e ∈ r, e.1 ≠ a) → cR r a = fun _ => 0
  | [], _ => rfl
  | e :: r, h => by
    unfold cR
    rw [up2_na (fun e' => h e List.mem_cons_self e'.symm)]
    exact cR_row r (fun q hq => h q (List.mem_cons_of_mem _ hq))
theorem cK_eq {K0 : Nat → Nat × Nat} {a : Nat} (h : 70 ≤ a) : ∀ k : List (Nat × Nat), a < 70 + k.length → cK K0 k a = k.getD (70 + k.length - 1 - a) (0, 0)
  | [], h2 => absurd h2 (by simp; omega)
  | x :: k, h2 => by
    unfold cK up1
    rw [List.length_cons] at h2 ⊢
    by_cases e : a = 70 + k.length
    · rw [if_pos e, show 70 + (k.length + 1) - 1 - a = 0 by omega]
      rfl
    · rw [if_neg e, cK_eq h k (by omega), show 70 + (k.length + 1) - 1 - a = (70 + k.length - 1 - a) + 1 by omega]
      rfl
theorem cK_lo {K0 : Nat → Nat × Nat} {a : Nat} (h : a < 70) : ∀ k : List (Nat × Nat), cK K0 k a = K0 a
  | [] => rfl
  | x :: k => by
    unfold cK up1
    rw [if_neg (by omega)]
    exact cK_lo h k
theorem cK_hi {K0 : Nat → Nat × Nat} {a : Nat} : ∀ k : List (Nat × Nat), 70 + k.length ≤ a → cK K0 k a = K0 a
  | [], _ => rfl
  | x :: k, h => by
    rw [List.length_cons] at h
    unfold cK up1
    rw [if_neg (by omega)]
    exact cK_hi k (by omega)
section CSTEP
variable {V0 : xF} {K0 : Nat → Nat × Nat} {C : cM}
theorem gK_eq (hC : cOK C) {a : Nat} (h : (gK C a).1 ≠ 0) : cK K0 C.2.2.1 a = gK C a ∧ a < C.2.2.2.1 := by
  unfold gK at h ⊢
  cases h1 : Nat.ble 70 a <;> cases h2 : Nat.blt a C.2.2.2.1 <;> rw [h1, h2] at h
  case true.true =>
    have g1 := Nat.le_of_ble_eq_true h1
    have g2 : a < C.2.2.2.1 := Nat.le_of_ble_eq_true h2
    rw [cK_eq g1 _ (by rw [← hC.1]; exact g2), ← hC.1]
    exact ⟨rfl, g2⟩
  all_goals exact absurd rfl h
theorem zrV (hV : ∀ a, 70 ≤ a → V0 a = fun _ => 0) (hC : cOK C) {n : Nat} (hn : C.2.2.2.1 ≤ n) : cV V0 C.1 n = fun _ => 0 := by
  rw [cV_row C.1 (fun e he => by have := hC.2.1 e he; omega)]
  exact hV n (by have := hC.1; omega)
theorem zrR' (hC : cOK C) {n : Nat} (hn : C.2.2.2.1 ≤ n) : cR C.2.1 n = fun _ => 0 := cR_row C.2.1 (fun e he => by have := hC.2.2 e he; omega)
theorem zr_same {f : xF} {n : Nat} (h : f n = fun _ => 0) : zr f n = f := by
  funext b j
  unfold zr
  split
  · rename_i e; rw [e, h]
  · rfl
theorem zrR_same {f : xR} {n : Nat} (h : f n = fun _ => 0) : zrR f n = f := by
  funext b j
  unfold zrR
  split
  · rename_i e; rw [e, h]
  · rfl
theorem zrs_same {f : xF} {n m : Nat} (h : ∀ a, n ≤ a → f a = fun _ => 0) : zrs f n m = f := by
  funext b j
  unfold zrs
  split
  · rename_i e; rw [h b e.1]
  · rfl
theorem zrsR_same {f : xR} {n m : Nat} (h : ∀ a, n ≤ a → f a = fun _ => 0) : zrsR f n m = f := by
  funext b j
  unfold zrsR
  split
  · rename_i e; rw [h b e.1]
  · rfl
/-- one more cell -/
def cNew (C : cM) (x : Nat × Nat) (sl : Nat) : cM := (C.1, C.2.1, x :: C.2.2.1, C.2.2.2.1 + 1, C.2.2.2.2.1 + 1, C.2.2.2.2.2 + sl)
theorem cNew_ok (hC : cOK C) {x : Nat × Nat} {sl : Nat} : cOK (cNew C x sl) := by
  obtain ⟨h1, h2, h3⟩ := hC
  refine ⟨by show C.2.2.2.1 + 1 = 70 + (C.2.2.1.length + 1); omega, fun e he => Nat.lt_succ_of_lt (h2 e he), fun e he => Nat.lt_succ_of_lt (h3 e he)⟩
theorem cNew_den (hV : ∀ a, 70 ≤ a → V0 a = fun _ => 0) (hC : cOK C) {x : Nat × Nat} {sl : Nat} : (zr (cV V0 C.1) C.2.2.2.1, zr cZ C.2.2.2.1, zrR (cR C.2.1) C.2.2.2.1, up1 (cK K0 C.2.2.1) C.2.2.2.1 x, C.2.2.2.1 + 1, C.2.2.2.2.1 + 1, C.2.2.2.2.2 + sl) = cden V0 K0 (cNew C x sl) := by
  rw [zr_same (zrV hV hC (Nat.le_refl _)), zrR_same (zrR' hC (Nat.le_refl _)), zr_same (f := cZ) rfl]
  unfold cden cNew
  dsimp only [cK]
  rw [← hC.1]
/-- many -/
def cRefs (n : Nat) : Nat → List (Nat × Nat × Nat) → List (Nat × Nat × Nat)
  | 0, r => r
  | m + 1, r => (n, m, n + 1 + m) :: cRefs n m r
def cKs (x : Nat × Nat) : Nat → List (Nat × Nat) → List (Nat × Nat)
  | 0, k => k
  | m + 1, k => x :: cKs x m k
theorem cRefs_mem {n : Nat} {r : List (Nat × Nat × Nat)} : ∀ m e, e ∈ cRefs n m r → e.1 = n ∨ e ∈ r
  | 0, e, h => Or.inr h
  | m + 1, e, h => by
    rcases List.mem_cons.mp h with e1 | e1
    · rw [e1]; exact Or.inl rfl
    · exact cRefs_mem m e e1
theorem cRefs_den {n : Nat} {r : List (Nat × Nat × Nat)} : ∀ m, cR (cRefs n m r) = fun b j => if b = n ∧ j < m then n + 1 + j else cR r b j
  | 0 => by funext b j; rw [if_neg (by omega)]; rfl
  | m + 1 => by
    funext b j
    show up2 (cR (cRefs n m r)) n m (n + 1 + m) b j = _
    rw [cRefs_den m]
    unfold up2
    dsimp only
    by_cases h1 : b = n ∧ j = m
    · rw [if_pos h1, if_pos (by omega), h1.2]
    · rw [if_neg h1]
      by_cases h2 : b = n ∧ j < m
      · rw [if_pos h2, if_pos (by omega)]
      · rw [if_neg h2, if_neg (by omega)]
theorem cKs_len {x : Nat × Nat} {k : List (Nat × Nat)} : ∀ m, (cKs x m k).length = k.length + m
  | 0 => rfl
  | m + 1 => by show (cKs x m k).length + 1 = _; rw [cKs_len m]; omega
theorem cKs_den {K0 : Nat → Nat × Nat} {x : Nat × Nat} {k : List (Nat × Nat)} : ∀ m b, cK K0 (cKs x m k) b = if 70 + k.length ≤ b ∧ b < 70 + k.length + m then x else cK K0 k b
  | 0, b => by rw [if_neg (by omega)]; rfl
  | m + 1, b => by
    show up1 (cK K0 (cKs x m k)) (70 + (cKs x m k).length) x b = _
    unfold up1
    rw [cKs_len m, cKs_den m b]
    by_cases h1 : b = 70 + (k.length + m)
    · rw [if_pos h1, if_pos (by omega)]
    · rw [if_neg h1]
      by_cases h2 : 70 + k.length ≤ b ∧ b < 70 + k.length + m
      · rw [if_pos h2, if_pos (by omega)]
      · rw [if_neg h2, if_neg (by omega)]
def cMany (C : cM) (x y : Nat) : cM := (C.1, cRefs C.2.2.2.1 x C.2.1, cKs (20, y) x ((25, x) :: C.2.2.1), C.2.2.2.1 + 1 + x, C.2.2.2.2.1 + 1 + x, C.2.2.2.2.2 + x + x * y)
theorem cMany_ok (hC : cOK C) {x y : Nat} : cOK (cMany C x y) := by
  obtain ⟨h1, h2, h3⟩ := hC
  refine ⟨?_, fun e he => Nat.lt_of_lt_of_le (h2 e he) (by show _ ≤ _ + 1 + x; omega), fun e he => ?_⟩
  · show C.2.2.2.1 + 1 + x = 70 + (cKs (20, y) x ((25, x) :: C.2.2.1)).length
    rw [cKs_len, List.length_cons]
    omega
  · show e.1 < C.2.2.2.1 + 1 + x
    rcases cRefs_mem x e he with e1 | e1
    · omega
    · have := h3 e e1; omega
theorem cMany_den (hV : ∀ a, 70 ≤ a → V0 a = fun _ => 0) (hC : cOK C) {x y : Nat} : (zrs (cV V0 C.1) C.2.2.2.1 (1 + x), zrs cZ C.2.2.2.1 (1 + x), (fun b j => if b = C.2.2.2.1 ∧ j < x then C.2.2.2.1 + 1 + j else zrsR (cR C.2.1) C.2.2.2.1 (1 + x) b j), (fun b => if b = C.2.2.2.1 then (25, x) else if C.2.2.2.1 < b ∧ b ≤ C.2.2.2.1 + x then (20, y) else cK K0 C.2.2.1 b), C.2.2.2.1 + 1 + x, C.2.2.2.2.1 + 1 + x, C.2.2.2.2.2 + x + x * y) = cden V0 K0 (cMany C x y) := by
  rw [zrs_same (fun a ha => zrV hV hC ha), zrsR_same (fun a ha => zrR' hC ha), zrs_same (f := cZ) (fun _ _ => rfl)]
  unfold cden cMany
  dsimp only
  rw [cRefs_den]
  have ek : (fun b => if b = C.2.2.2.1 then (25, x) else if C.2.2.2.1 < b ∧ b ≤ C.2.2.2.1 + x then (20, y) else cK K0 C.2.2.1 b) = cK K0 (cKs (20, y) x ((25, x) :: C.2.2.1)) := by
    funext b
    have h1 := hC.1
    rw [cKs_den, List.length_cons]
    show _ = if _ then _ else up1 (cK K0 C.2.2.1) (70 + C.2.2.1.length) (25, x) b
    unfold up1
    by_cases e1 : b = C.2.2.2.1
    · rw [if_pos e1, if_neg (by omega), if_pos (by omega)]
    · rw [if_neg e1]
      by_cases e2 : C.2.2.2.1 < b ∧ b ≤ C.2.2.2.1 + x
      · rw [if_pos e2, if_pos (by omega)]
      · rw [if_neg e2, if_neg (by omega), if_neg (by omega)]
  rw [ek]
end CSTEP
