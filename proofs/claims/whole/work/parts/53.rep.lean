/-! ===== REPLIES: HOW MANY, THE LOUDEST, THE FIRST, ALIKE ===== -/
theorem foldl_id {α : Type} {g : Int → α → Int} : ∀ (l : List α) (z : Int), (∀ q ∈ l, ∀ z, g z q = z) → l.foldl g z = z
  | [], _, _ => rfl
  | q :: l, z, h => by
    rw [List.foldl_cons, h q List.mem_cons_self]
    exact foldl_id l z fun q hq => h q (List.mem_cons_of_mem _ hq)
theorem upl_mem : ∀ (n : Nat) (a k : Int), k ∈ upl a n → a ≤ k ∧ k < a + n
  | 0, a, k, h => by cases h
  | n + 1, a, k, h => by
    rcases List.mem_cons.mp h with h | h
    · subst h; omega
    · have := upl_mem n (a + 1) k h
      omega
theorem ims_mem {b : Int} (hb : 1 ≤ b ∧ b ≤ 3) {q : Int × Int} (h : q ∈ ims b) : q.1.natAbs + q.2.natAbs ≤ 3 ∧ (q.1 ≠ 0 ∨ q.2 ≠ 0) := by
  unfold ims at h
  rw [List.mem_flatMap] at h
  obtain ⟨i, hi, h⟩ := h
  unfold imj at h
  rw [List.mem_map] at h
  obtain ⟨j, hj, rfl⟩ := h
  rw [List.mem_filter] at hj
  have h1 := upl_mem _ _ _ hi
  have h2 := upl_mem _ _ _ hj.1
  have h3 : i ≠ 0 ∨ j ≠ 0 := by simpa using hj.2
  refine ⟨?_, h3⟩
  dsimp only
  omega
theorem ims_len {b : Int} (hb : 1 ≤ b ∧ b ≤ 3) : (ims b).length ≤ 24 := by
  have : b = 1 ∨ b = 2 ∨ b = 3 := by omega
  rcases this with h | h | h <;> subst h <;> decide
theorem ims_is {p : Rw} {r : Nat} {x y : Int} (hR : rOK p r) (hP : isPl p r x y) (hb : 1 ≤ p 10 ∧ p 10 ≤ 3) : ∀ q ∈ ims (p 10), isIm p r x y q.1 q.2 := fun q hq =>
  ⟨hR.2.1, hR.2.2, hP.1, hP.2, ims_mem hb hq⟩
theorem acL_b {p : Rw} {r : Nat} {x y : Int} {t : Nat} : ∀ (l : List (Int × Int)) (z : Int), (∀ q ∈ l, isIm p r x y q.1 q.2) → 0 ≤ z → z + 1000 * l.length ≤ 2000000000 → 0 ≤ l.foldl (acL p r x y t) z ∧ l.foldl (acL p r x y t) z ≤ z + 1000 * l.length
  | [], z, _, h0, _ => ⟨h0, by simp⟩
  | q :: l, z, h, h0, h1 => by
    rw [List.foldl_cons]
    have hq := imL_b (h q List.mem_cons_self)
    rw [List.length_cons] at h1 ⊢
    have step : 0 ≤ acL p r x y t z q ∧ acL p r x y t z q ≤ z + 1000 := by
      unfold acL
      split
      · rw [wr_id (by omega) (by omega)]
        omega
      · omega
    have := acL_b (t := t) l (acL p r x y t z q) (fun q hq => h q (List.mem_cons_of_mem _ hq)) step.1 (by omega)
    omega
/-- a place in a room of a house -/
def okPl (p : Rw) (r : Nat) (x y : Int) : Prop := WF p ∧ (r : Int) < p 3 ∧ isPl p r x y
theorem louds_b {p : Rw} {r : Nat} {x y : Int} (h : okPl p r x y) (t : Nat) : 0 ≤ louds p r x y t ∧ louds p r x y t ≤ 24000 := by
  have hb : 1 ≤ p 10 ∧ p 10 ≤ 3 := h.1.2.2.2.2.1
  have hl := ims_len hb
  have := acL_b (t := t) (ims (p 10)) 0 (ims_is (h.1.room h.2.1) h.2.2 hb) (by omega) (by omega)
  unfold louds
  omega
theorem louds_hi {p : Rw} {r : Nat} {x y : Int} (h : okPl p r x y) {t : Nat} (ht : 48 ≤ t) : louds p r x y t = 0 := by
  have hb : 1 ≤ p 10 ∧ p 10 ≤ 3 := h.1.2.2.2.2.1
  refine foldl_id _ _ fun q hq z => ?_
  have := im_t (ims_is (h.1.room h.2.1) h.2.2 hb q hq)
  unfold acL
  rw [if_neg (by omega)]
theorem walls_hi {p : Rw} {r : Nat} {x y : Int} (h : okPl p r x y) {t : Nat} (ht : 48 ≤ t) : wallsOf p r x y t = 0 := by
  have hb : 1 ≤ p 10 ∧ p 10 ≤ 3 := h.1.2.2.2.2.1
  refine foldl_id _ _ fun q hq z => ?_
  have := im_t (ims_is (h.1.room h.2.1) h.2.2 hb q hq)
  unfold acW
  rw [if_neg (by omega)]
theorem hear_b {p : Rw} {r : Nat} {x y : Int} (h : okPl p r x y) (t : Nat) : 0 ≤ hearT p r x y t ∧ hearT p r x y t ≤ 24000 := by
  have := louds_b h t
  unfold hearT
  split <;> omega
theorem hear_hi {p : Rw} {r : Nat} {x y : Int} (h : okPl p r x y) {t : Nat} (ht : 48 ≤ t) : hearT p r x y t = 0 := by
  unfold hearT
  rw [louds_hi h ht]
  split <;> rfl
theorem cntT_hi {f : Nat → Int} {n : Nat} : ∀ (k : Nat), (∀ t, n ≤ t → f t ≤ 0) → cntT f (n + k) = cntT f n
  | 0, _ => rfl
  | k + 1, h => by
    show cntT f (n + k) + (if 0 < f (n + k) then 1 else 0) = _
    rw [if_neg (by have := h (n + k) (by omega); omega), cntT_hi k h]
    omega
/-- the loudest from a on, below b; of several the first -/
def isLd (f : Nat → Int) (a b : Nat) (k : Int) : Prop := (k = -1 ∧ ∀ t, a ≤ t → t < b → f t ≤ 0) ∨ ∃ m : Nat, k = (m : Int) ∧ a ≤ m ∧ m < b ∧ 0 < f m ∧ (∀ t, a ≤ t → t < b → f t ≤ f m) ∧ ∀ t, a ≤ t → t < m → f t < f m
theorem isLd_uniq {f : Nat → Int} {a b : Nat} {k k' : Int} (h : isLd f a b k) (h' : isLd f a b k') : k = k' := by
  rcases h with ⟨h1, h2⟩ | ⟨m, h1, h2, h3, h4, h5, h6⟩ <;> rcases h' with ⟨g1, g2⟩ | ⟨m', g1, g2, g3, g4, g5, g6⟩
  · omega
  · have := h2 m' g2 g3; omega
  · have := g2 m h2 h3; omega
  · by_cases hm : m = m'
    · omega
    · rcases Nat.lt_or_gt_of_ne hm with hm | hm
      · have := g6 m h2 hm; have := h5 m' g2 g3; omega
      · have := h6 m' g2 hm; have := g5 m h2 h3; omega
def ldT (f : Nat → Int) : Nat → Int
  | 0 => -1
  | n + 1 => if 0 < f n ∧ (ldT f n = -1 ∨ f (ldT f n).toNat < f n) then (n : Int) else ldT f n
theorem ldT_is (f : Nat → Int) : ∀ n, isLd f 0 n (ldT f n)
  | 0 => Or.inl ⟨rfl, fun t _ h => by omega⟩
  | n + 1 => by
    have ih := ldT_is f n
    unfold ldT
    rcases ih with ⟨h1, h2⟩ | ⟨m, h1, h2, h3, h4, h5, h6⟩
    · rw [h1]
      by_cases h : 0 < f n
      · rw [if_pos ⟨h, Or.inl rfl⟩]
        exact Or.inr ⟨n, rfl, by omega, by omega, h, fun t _ ht => by
          by_cases e : t = n
          · subst e; omega
          · have := h2 t (by omega) (by omega); omega, fun t _ ht => by have := h2 t (by omega) (by omega); omega⟩
      · rw [if_neg (by omega)]
        exact Or.inl ⟨rfl, fun t _ ht => by
          by_cases e : t = n
          · subst e; omega
          · exact h2 t (by omega) (by omega)⟩
    · rw [h1, nn_toNat]
      by_cases h : 0 < f n ∧ ((m : Int) = -1 ∨ f m < f n)
      · rw [if_pos h]
        exact Or.inr ⟨n, rfl, by omega, by omega, h.1, fun t _ ht => by
          by_cases e : t = n
          · subst e; omega
          · have := h5 t (by omega) (by omega); omega, fun t _ ht => by have := h5 t (by omega) (by omega); omega⟩
      · rw [if_neg h]
        exact Or.inr ⟨m, rfl, by omega, by omega, h4, fun t _ ht => by
          by_cases e : t = n
          · subst e; omega
          · exact h5 t (by omega) (by omega), h6⟩
theorem ldT_hi {f : Nat → Int} {n : Nat} : ∀ (k : Nat), (∀ t, n ≤ t → f t ≤ 0) → ldT f (n + k) = ldT f n
  | 0, _ => rfl
  | k + 1, h => by
    show (if 0 < f (n + k) ∧ _ then _ else _) = _
    rw [if_neg (by have := h (n + k) (by omega); omega)]
    exact ldT_hi k h
/-- the k-th of those that are heard -/
def kth (f : Nat → Int) (k : Int) : Nat → Nat → Int
  | 0, _ => -1
  | n + 1, t => if 0 < f t then (if k = 0 then (t : Int) else kth f (k - 1) n (t + 1)) else kth f k n (t + 1)
theorem kth_hi {f : Nat → Int} (m : Nat) : ∀ (n t : Nat) (k : Int), (∀ u, t + n ≤ u → f u ≤ 0) → kth f k (n + m) t = kth f k n t
  | 0, t, k, h => by
    rw [Nat.zero_add]
    revert t k
    induction m with
    | zero => intros; rfl
    | succ m ih =>
      intro t k h
      unfold kth
      rw [if_neg (by have := h t (by omega); omega)]
      have := ih (t + 1) k (fun u hu => h u (by omega))
      rw [this]
      rfl
  | n + 1, t, k, h => by
    rw [show n + 1 + m = (n + m) + 1 by omega]
    unfold kth
    rw [kth_hi m n (t + 1) (k - 1) (fun u hu => h u (by omega)), kth_hi m n (t + 1) k (fun u hu => h u (by omega))]
/-- the last of those that are heard -/
def lastT (f : Nat → Int) : Nat → Int
  | 0 => -1
  | n + 1 => if 0 < f n then (n : Int) else lastT f n
theorem lastT_hi {f : Nat → Int} {n : Nat} : ∀ (k : Nat), (∀ t, n ≤ t → f t ≤ 0) → lastT f (n + k) = lastT f n
  | 0, _ => rfl
  | k + 1, h => by
    show (if 0 < f (n + k) then _ else _) = _
    rw [if_neg (by have := h (n + k) (by omega); omega)]
    exact lastT_hi k h
def eqT (f g : Nat → Int) : Nat → Bool
  | 0 => true
  | n + 1 => eqT f g n && decide (f n = g n)
theorem eqT_iff {f g : Nat → Int} : ∀ {n : Nat}, eqT f g n = true ↔ ∀ t, t < n → f t = g t
  | 0 => ⟨fun _ t h => by omega, fun _ => rfl⟩
  | n + 1 => by
    unfold eqT
    rw [Bool.and_eq_true, eqT_iff (n := n), decide_eq_true_iff]
    constructor
    · intro h t ht
      by_cases e : t = n
      · subst e; exact h.2
      · exact h.1 t (by omega)
    · intro h
      exact ⟨fun t ht => h t (by omega), h n (by omega)⟩
theorem eqT_hi {f g : Nat → Int} {n : Nat} : ∀ (k : Nat), (∀ t, n ≤ t → f t = g t) → eqT f g (n + k) = eqT f g n
  | 0, _ => rfl
  | k + 1, h => by
    show (eqT f g (n + k) && decide (f (n + k) = g (n + k))) = _
    rw [eqT_hi k h, h (n + k) (by omega)]
    simp
section REPL
variable {d : Nat} {V : xF} {D : yD} {Q : xRes → xF → yD → Prop}
theorem c_echoes {q : Nat} {f : Nat → Int} (hq : isRep q) (hf : ∀ t, t < 48 → V q t = f t) (h : Q (.inl (some (vi (cntT f 48)))) V D) : RY d 213 0 [vr q, vr 0, vr 0] [] V D Q := by
  refine u_213_0 ?_
  have hqn := rep_ne hq
  have hK := rep_K hq D.2.2.1
  have main : ∀ (n k : Nat), k + n = 48 → RY d 213 4 [vr q, vi (cntT f k), vi (k : Int)] [] V D Q := by
    intro n
    induction n with
    | zero =>
      intro k hk
      have : k = 48 := by omega
      subst this
      exact u_213_4 ⟨fun _ => h, fun h5 => by omega⟩
    | succ n ih =>
      intro k hk
      have hc := cntT_b f k
      have := ih (k + 1) (by omega)
      unfold cntT at this
      refine u_213_4 ⟨fun h5 => by omega, fun _ => ?_⟩
      rw [hK, nn_toNat, hf k (by omega), wr_id (x := (k : Int) + 1) (by omega) (by omega), wr_id (x := cntT f k + 1) (by omega) (by omega)]
      refine ⟨hqn.1, ⟨by omega, by omega⟩, ⟨by omega, by dsimp only; omega⟩, fun h5 => ?_, fun h5 => ?_⟩
      · rw [if_neg (by omega), Int.add_zero] at this
        exact this
      · rw [if_pos h5] at this
        exact this
  exact main 48 0 (by omega)
theorem c_timeOf {f : Nat → Int} {k : Int} (hf : ∀ t, t < 48 → V 253 t = f t) (hk : -2147483648 ≤ k ∧ k ≤ 2147483647) (h : Q (.inl (some (vi (kth f k 48 0)))) V D) : RY d 253 0 [vr 253, vi k, vr 0, vr 0] [] V D Q := by
  refine u_253_0 ?_
  obtain ⟨R, hR⟩ : ∃ R, R = kth f k 48 0 := ⟨_, rfl⟩
  rw [← hR] at h
  have main : ∀ (n t b : Nat), t + n = 48 → b ≤ t → kth f (k - b) n t = R → RY d 253 4 [vr 253, vi k, vi (b : Int), vi (t : Int)] [] V D Q := by
    intro n
    induction n with
    | zero =>
      intro t b ht hb he
      refine u_253_4 ⟨fun _ => ?_, fun h5 => by omega⟩
      rw [← he] at h
      exact h
    | succ n ih =>
      intro t b ht hb he
      unfold kth at he
      refine u_253_4 ⟨fun h5 => by omega, fun _ => ⟨by omega, ?_⟩⟩
      rw [nn_toNat, hf t (by omega), wr_id (x := (t : Int) + 1) (by omega) (by omega), wr_id (x := (b : Int) + 1) (by omega) (by omega)]
      refine ⟨fun h5 => ?_, fun h5 => ⟨fun h6 => ?_, fun h6 => ?_⟩⟩
      · rw [if_neg (by omega)] at he
        exact ih (t + 1) b (by omega) (by omega) he
      · rw [if_pos h5, if_neg (by omega)] at he
        exact ih (t + 1) (b + 1) (by omega) (by omega) (by rw [← he]; congr 1; omega)
      · rw [if_pos h5, if_pos (by omega)] at he
        rw [← he] at h
        exact h
  exact main 48 0 0 (by omega) (by omega) (by rw [show k - ((0 : Nat) : Int) = k by omega, hR])
theorem c_loudest {q : Nat} {f : Nat → Int} (hq : isRep q) (hf : ∀ t, t < 48 → V q t = f t) (h : Q (.inl (some (vi (ldT f 48)))) V D) : RY d 263 0 [vr q, vr 0, vr 0] [] V D Q := by
  refine u_263_0 ?_
  have hqn := rep_ne hq
  have hK := rep_K hq D.2.2.1
  have main : ∀ (n k : Nat), k + n = 48 → RY d 263 4 [vr q, vi (ldT f k), vi (k : Int)] [] V D Q := by
    intro n
    induction n with
    | zero =>
      intro k hk
      have : k = 48 := by omega
      subst this
      exact u_263_4 ⟨fun _ => h, fun h5 => by omega⟩
    | succ n ih =>
      intro k hk
      have hc := ldT_is f k
      have hr : ldT f k = -1 ∨ (0 ≤ ldT f k ∧ ldT f k < k) := by
        rcases hc with ⟨h1, h2⟩ | ⟨m, h1, h2, h3, -⟩
        · exact Or.inl h1
        · exact Or.inr ⟨by omega, by omega⟩
      have := ih (k + 1) (by omega)
      unfold ldT at this
      refine u_263_4 ⟨fun h5 => by omega, fun _ => ?_⟩
      rw [hK, nn_toNat, hf k (by omega), wr_id (x := (k : Int) + 1) (by omega) (by omega)]
      refine ⟨hqn.1, ⟨by omega, by omega⟩, ⟨by omega, by dsimp only; omega⟩, fun h5 => ?_, fun h5 => ⟨fun h6 => ?_, fun h6 => ?_⟩⟩
      · rw [if_neg (by omega)] at this
        exact this
      · rw [if_pos ⟨h5, Or.inl h6⟩] at this
        exact this
      · have hn : 0 ≤ ldT f k ∧ ldT f k < k := by omega
        rw [hf (ldT f k).toNat (by omega)]
        refine ⟨hqn.1, ⟨by omega, by omega⟩, ⟨by omega, by dsimp only; omega⟩, hqn.1, ⟨by omega, by omega⟩, ⟨by omega, by dsimp only; omega⟩, fun h7 => ?_, fun h7 => ?_⟩
        · rw [if_neg (by omega)] at this
          exact this
        · rw [if_pos ⟨h5, Or.inr h7⟩] at this
          exact this
  exact main 48 0 (by omega)
theorem c_unlike {q q' : Nat} {f g : Nat → Int} (hq : isRep q) (hq' : isRep q') (hf : ∀ t, t < 48 → V q t = f t) (hg : ∀ t, t < 48 → V q' t = g t) (h : Q (.inl (some (vi (if eqT f g 48 then 0 else 1)))) V D) : RY d 334 0 [vr q, vr q', vr 0] [] V D Q := by
  refine u_334_0 ?_
  have hqn := rep_ne hq
  have hK := rep_K hq D.2.2.1
  have hqn' := rep_ne hq'
  have hK' := rep_K hq' D.2.2.1
  have main : ∀ (n k : Nat), k + n = 48 → eqT f g k = true → RY d 334 2 [vr q, vr q', vi (k : Int)] [] V D Q := by
    intro n
    induction n with
    | zero =>
      intro k hk he
      have : k = 48 := by omega
      subst this
      rw [he] at h
      exact u_334_2 ⟨fun _ => h, fun h5 => by omega⟩
    | succ n ih =>
      intro k hk he
      refine u_334_2 ⟨fun h5 => by omega, fun _ => ?_⟩
      rw [hK, hK', nn_toNat, hf k (by omega), hg k (by omega), wr_id (x := (k : Int) + 1) (by omega) (by omega)]
      refine ⟨hqn.1, ⟨by omega, by omega⟩, ⟨by omega, by dsimp only; omega⟩, hqn'.1, ⟨by omega, by omega⟩, ⟨by omega, by dsimp only; omega⟩, fun h5 => ?_, fun h5 => ?_⟩
      · exact ih (k + 1) (by omega) (by unfold eqT; rw [he, h5]; simp)
      · have : eqT f g 48 = false := by
          cases hb : eqT f g 48 with
          | false => rfl
          | true => exact absurd (eqT_iff.mp hb k (by omega)) h5
        rw [this] at h
        exact h
  exact main 48 0 (by omega) rfl
/-! ===== the model's ===== -/
theorem m_loudest {f : Nat → Int} (hf : ∀ t, t < 64 → V 412 t = f t) (h : Q (.inl (some (vi (ldT f 64)))) V D) : RY d 178 0 [vr 405, vr 0, vr 0] [] V D Q := by
  refine u_178_0 ?_
  have main : ∀ (n : Nat) (k : Int), n ≤ 64 → isLd f n 64 k → RY d 178 5 [vr 405, vi k, vi ((n : Int) - 1)] [] V D Q := by
    intro n
    induction n with
    | zero =>
      intro k hn hk
      refine u_178_5 ⟨fun _ => ?_, fun h5 => by omega⟩
      rw [isLd_uniq hk (ldT_is f 64)]
      exact h
    | succ n ih =>
      intro k hn hk
      have e1 : ((n + 1 : Nat) : Int) - 1 = (n : Int) := by omega
      rw [e1]
      refine u_178_5 ⟨fun h5 => by omega, fun _ => ⟨by omega, ?_⟩⟩
      rw [nn_toNat, hf n (by omega), wr_id (x := (n : Int) + (-1)) (by omega) (by omega), show (n : Int) + (-1) = (n : Int) - 1 by omega]
      refine ⟨fun h5 => ?_, fun h5 => ⟨fun h6 => ?_, fun h6 => ?_⟩⟩
      · refine ih k (by omega) ?_
        rcases hk with ⟨g1, g2⟩ | ⟨m, g1, g2, g3, g4, g5, g6⟩
        · refine Or.inl ⟨g1, fun t a b => ?_⟩
          by_cases e : t = n
          · subst e; exact h5
          · exact g2 t (by omega) b
        · refine Or.inr ⟨m, g1, by omega, g3, g4, fun t a b => ?_, fun t a b => ?_⟩
          · by_cases e : t = n
            · subst e; omega
            · exact g5 t (by omega) b
          · by_cases e : t = n
            · subst e; omega
            · exact g6 t (by omega) b
      · refine ih n (by omega) ?_
        rcases hk with ⟨g1, g2⟩ | ⟨m, g1, g2, g3, g4, g5, g6⟩
        · refine Or.inr ⟨n, rfl, Nat.le_refl _, by omega, h5, fun t a b => ?_, fun t a b => by omega⟩
          by_cases e : t = n
          · subst e; omega
          · have := g2 t (by omega) b; omega
        · omega
      · rcases hk with ⟨g1, g2⟩ | ⟨m, g1, g2, g3, g4, g5, g6⟩
        · omega
        · subst g1
          rw [nn_toNat, hf m (by omega)]
          refine ⟨by omega, by omega, fun h7 => ?_, fun h7 => ?_⟩
          · refine ih m (by omega) (Or.inr ⟨m, rfl, by omega, g3, g4, fun t a b => ?_, fun t a b => ?_⟩)
            · by_cases e : t = n
              · subst e; omega
              · exact g5 t (by omega) b
            · by_cases e : t = n
              · subst e; omega
              · exact g6 t (by omega) b
          · refine ih n (by omega) (Or.inr ⟨n, rfl, Nat.le_refl _, by omega, h5, fun t a b => ?_, fun t a b => by omega⟩)
            by_cases e : t = n
            · subst e; omega
            · have := g5 t (by omega) b; omega
  exact main 64 (-1) (by omega) (Or.inl ⟨rfl, fun t a b => by omega⟩)
theorem m_keeps {f : Nat → Int} (hf : ∀ t, t < 64 → V 412 t = f t) (h : ∀ V', (∀ t, t < 64 → V' 414 t = f t) → Fr [414] V V' → Q (.inl none) V' D) : RY d 194 0 [vr 405, vr 0] [] V D Q := by
  refine u_194_0 ?_
  have main : ∀ (n k : Nat) (V1 : xF), k + n = 64 → (∀ t, t < k → V1 414 t = f t) → Fr [414] V V1 → RY d 194 2 [vr 405, vi (k : Int)] [] V1 D Q := by
    intro n
    induction n with
    | zero =>
      intro k V1 hk h1 h2
      exact u_194_2 ⟨fun _ => h V1 (fun t ht => h1 t (by omega)) h2, fun h5 => by omega⟩
    | succ n ih =>
      intro k V1 hk h1 h2
      refine u_194_2 ⟨fun h5 => by omega, fun _ => ⟨by omega, by omega, ?_⟩⟩
      rintro V2 rfl
      rw [nn_toNat, wr_id (by omega) (by omega), h2.at_ 412 (by decide), hf k (by omega)]
      refine ih (k + 1) _ (by omega) ?_ (h2.tr (Fr.up (by decide)))
      intro t ht
      rw [up2_a]
      by_cases e : t = k
      · subst e; rw [if_pos rfl]
      · rw [if_neg e]; exact h1 t (by omega)
  exact main 64 0 V (by omega) (fun t ht => by omega) Fr.rf
theorem m_isAs {f g : Nat → Int} (hf : ∀ t, t < 64 → V 414 t = f t) (hg : ∀ t, t < 64 → V 412 t = g t) (h : Q (.inl (some (vi (if eqT f g 64 then 1 else 0)))) V D) : RY d 196 0 [vr 405, vr 0, vr 0] [] V D Q := by
  refine u_196_0 ?_
  have main : ∀ (n k : Nat), k + n = 64 → RY d 196 4 [vr 405, vi (if eqT f g k then 1 else 0), vi (k : Int)] [] V D Q := by
    intro n
    induction n with
    | zero =>
      intro k hk
      have : k = 64 := by omega
      subst this
      refine u_196_4 ⟨fun _ => ⟨?_, h⟩, fun h5 => by omega⟩
      split <;> simp
    | succ n ih =>
      intro k hk
      have := ih (k + 1) (by omega)
      unfold eqT at this
      refine u_196_4 ⟨fun h5 => by omega, fun _ => ?_⟩
      rw [nn_toNat, hf k (by omega), hg k (by omega), wr_id (x := (k : Int) + 1) (by omega) (by omega)]
      cases hb : eqT f g k with
      | false =>
        rw [hb] at this
        refine ⟨fun _ => this, fun h5 => absurd rfl h5⟩
      | true =>
        rw [hb] at this
        refine ⟨fun h5 => absurd h5 (by decide), fun _ => ⟨by omega, by omega, fun h5 => ?_, fun h5 => ?_⟩⟩
        · simp only [h5, decide_false, Bool.and_false] at this
          exact this
        · simp only [h5, decide_true, Bool.and_true] at this
          exact this
  exact main 64 0 (by omega)
end REPL
