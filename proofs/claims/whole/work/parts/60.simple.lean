/-! ===== WHO HAS A ROOM; SETS; COUNTS ===== -/
/-- a bit of a small set -/
def tb (x : Int) (j : Nat) : Bool := Nat.testBit x.toNat j
theorem tb_or {x : Int} {k j : Nat} (hx : 0 ≤ x ∧ x < 32) (hk : k < 5) (hj : j < 5) : tb (xor_ x (xshl 1 (k : Int))) j = (tb x j || decide (j = k)) := by
  have hall : ∀ x : Fin 32, ∀ k : Fin 5, ∀ j : Fin 5, tb (xor_ (x.1 : Int) (xshl 1 (k.1 : Int))) j.1 = (tb (x.1 : Int) j.1 || decide (j.1 = k.1)) := by decide +kernel
  have := hall ⟨x.toNat, by omega⟩ ⟨k, hk⟩ ⟨j, hj⟩
  dsimp only at this
  rwa [show ((x.toNat : Nat) : Int) = x by omega] at this
theorem or_lt {x : Int} {k : Nat} (hx : 0 ≤ x ∧ x < 32) (hk : k < 5) : 0 ≤ xor_ x (xshl 1 (k : Int)) ∧ xor_ x (xshl 1 (k : Int)) < 32 := by
  have hall : ∀ x : Fin 32, ∀ k : Fin 5, 0 ≤ xor_ (x.1 : Int) (xshl 1 (k.1 : Int)) ∧ xor_ (x.1 : Int) (xshl 1 (k.1 : Int)) < 32 := by decide +kernel
  have := hall ⟨x.toNat, by omega⟩ ⟨k, hk⟩
  dsimp only at this
  rwa [show ((x.toNat : Nat) : Int) = x by omega] at this
theorem tb_ext {x y : Int} (hx : 0 ≤ x ∧ x < 32) (hy : 0 ≤ y ∧ y < 32) (h : ∀ j, j < 5 → tb x j = tb y j) : x = y := by
  have hall : ∀ x : Fin 32, ∀ y : Fin 32, (∀ j : Fin 5, tb (x.1 : Int) j.1 = tb (y.1 : Int) j.1) → x = y := by decide +kernel
  have e1 : ((x.toNat : Nat) : Int) = x := by omega
  have e2 : ((y.toNat : Nat) : Int) = y := by omega
  have := hall ⟨x.toNat, by omega⟩ ⟨y.toNat, by omega⟩ (fun j => by dsimp only; rw [e1, e2]; exact h j.1 j.2)
  have h3 : x.toNat = y.toNat := congrArg Fin.val this
  omega
theorem tb_bitsT {b : Nat → Bool} {j : Nat} (hj : j < 5) : ∀ {n : Nat}, n ≤ 5 → tb (bitsT b n) j = (decide (j < n) && b j)
  | 0, _ => by
    show Nat.testBit 0 j = _
    simp
  | n + 1, hn => by
    have ih := tb_bitsT (b := b) hj (n := n) (by omega)
    have hl := bitsT_lt (b := b) (n := n) (by omega)
    unfold bitsT
    cases hb : b n with
    | true =>
      rw [if_pos rfl, tb_or hl (by omega) hj, ih]
      by_cases e : j = n
      · subst e; simp [hb]
      · have : decide (j < n + 1) = decide (j < n) := by rw [decide_eq_decide]; omega
        simp [e, this]
    | false =>
      rw [if_neg (by decide), ih]
      by_cases e : j = n
      · subst e; simp [hb]
      · have : decide (j < n + 1) = decide (j < n) := by rw [decide_eq_decide]; omega
        rw [this]
/-- who has a room; none -/
def hdr (p : Rw) (r : Int) : Int := fstB (fun t => decide (tL_ p t = r)) (p 4).toNat
/-- rooms that are let, as bits -/
def letF (p : Rw) : Int := bitsT (fun r => decide (hdr p (r : Int) ≠ -1)) (p 3).toNat
section SIMPLE
variable {d : Nat} {V : xF} {D : yD} {Q : xRes → xF → yD → Prop} {p : Rw}
theorem WF.ten (h : WF p) {t : Nat} (ht : (t : Int) < p 4) : t < 5 ∧ (0 ≤ tP_ p t ∧ tP_ p t ≤ 99) ∧ (0 ≤ tW_ p t ∧ tW_ p t ≤ 9) ∧ (-1 ≤ tL_ p t ∧ tL_ p t < p 3) := by
  obtain ⟨-, h4, -, -, -, -, -, -, -, -, -, -, ht', -⟩ := h
  have := ht' t ht
  exact ⟨by omega, this⟩
theorem WF.uni (h : WF p) {t u : Nat} (ht : (t : Int) < p 4) (hu : (u : Int) < p 4) (he : tL_ p t = tL_ p u) (hn : tL_ p t ≠ -1) : t = u := by
  obtain ⟨-, -, -, -, -, -, -, -, -, -, -, -, -, hx, -⟩ := h
  exact hx t u ht hu he hn
theorem St.rooms {s : Nat} (h : St V s p) : V s 0 = p 3 := h.1
theorem St.tens {s : Nat} (h : St V s p) : V s 6 = p 4 := h.2.2.2.2.2.2.1
theorem St.lod {s t : Nat} (h : St V s p) (ht : t < 5) : V (s + 8) t = tL_ p t := h.2.2.2.2.2.2.2.2.2.1 t ht
theorem c_holder_81 {r : Int} (hS : St V 81 p) (hW : WF p) (h : Q (.inl (some (vi (hdr p r)))) V D) : RY d 236 0 [vr 81, vi r, vr 0] [] V D Q := by
  have h4 : 0 ≤ p 4 ∧ p 4 ≤ 5 := hW.2.1
  have e6 := hS.tens
  refine u_236_0_81 ?_
  unfold hdr at h
  have main : ∀ (n k : Nat), (k : Int) + n = p 4 → (∀ i, i < k → tL_ p i ≠ r) → RY d 236 2 [vr 81, vi r, vi (k : Int)] [] V D Q := by
    intro n
    induction n with
    | zero =>
      intro k hk hall
      refine u_236_2_81 ⟨fun _ => ?_, fun h5 => by omega⟩
      rcases fstB_spec (fun t => decide (tL_ p t = r)) (p 4).toNat with ⟨x, -⟩ | ⟨m, x, y, z, -⟩
      · rw [x] at h; exact h
      · exact absurd (by simpa using z) (hall m (by omega))
    | succ n ih =>
      intro k hk hall
      have hl : V 89 k = tL_ p k := hS.lod (by omega)
      refine u_236_2_81 ⟨fun h5 => by omega, fun _ => ⟨by omega, ?_⟩⟩
      rw [nn_toNat, hl, wr_id (by omega) (by omega)]
      refine ⟨fun h5 => ih (k + 1) (by omega) ?_, fun h5 => ?_⟩
      · intro i hi
        by_cases e : i = k
        · subst e; exact h5
        · exact hall i (by omega)
      · rcases fstB_spec (fun t => decide (tL_ p t = r)) (p 4).toNat with ⟨x, y⟩ | ⟨m, x, y, z, w⟩
        · exact absurd h5 (by simpa using y k (by omega))
        · have : m = k := by
            rcases Nat.lt_trichotomy m k with e | e | e
            · exact absurd (by simpa using z) (hall m e)
            · exact e
            · exact absurd h5 (by simpa using w k e)
          subst this
          rw [x] at h
          exact h
  exact main (p 4).toNat 0 (by omega) (fun i hi => by omega)
theorem c_letRooms_81 (hS : St V 81 p) (hW : WF p) (h : Q (.inl (some (vi (letF p)))) V D) : RY d 214 0 [vr 81, vr 0, vr 0] [] V D Q := by
  have h3 : 0 ≤ p 3 ∧ p 3 ≤ 5 := hW.1
  have h4 : 0 ≤ p 4 ∧ p 4 ≤ 5 := hW.2.1
  have e6 := hS.tens
  refine u_214_0_81 ?_
  have main : ∀ (n k : Nat) (x : Int), (k : Int) + n = p 4 → (0 ≤ x ∧ x < 32) → (∀ j, j < 5 → (tb x j = true ↔ ∃ t, t < k ∧ tL_ p t = (j : Int))) → RY d 214 4 [vr 81, vi x, vi (k : Int)] [] V D Q := by
    intro n
    induction n with
    | zero =>
      intro k x hk hx hb
      refine u_214_4_81 ⟨fun _ => ?_, fun h5 => by omega⟩
      have e : x = letF p := by
        refine tb_ext hx (bitsT_lt (by omega)) fun j hj => ?_
        unfold letF
        rw [tb_bitsT hj (by omega), Bool.eq_iff_iff, hb j hj, Bool.and_eq_true, decide_eq_true_iff, decide_eq_true_iff]
        rcases fstB_spec (fun t => decide (tL_ p t = (j : Int))) (p 4).toNat with ⟨a, b⟩ | ⟨m, a, b, c, -⟩
        · constructor
          · rintro ⟨t, ht, ht2⟩
            exact absurd ht2 (by simpa using b t (by omega))
          · rintro ⟨-, hh⟩
            exact absurd a hh
        · constructor
          · rintro ⟨t, ht, ht2⟩
            have := (hW.ten (t := t) (by omega)).2.2.2
            exact ⟨by omega, by show fstB _ _ ≠ -1; omega⟩
          · rintro -
            exact ⟨m, by omega, by simpa using c⟩
      rw [e]
      exact h
    | succ n ih =>
      intro k x hk hx hb
      have hl : V 89 k = tL_ p k := hS.lod (by omega)
      have hr := (hW.ten (t := k) (by omega)).2.2.2
      refine u_214_4_81 ⟨fun h5 => by omega, fun _ => ⟨by omega, ?_⟩⟩
      rw [nn_toNat, hl, wr_id (by omega) (by omega)]
      refine ⟨fun h5 => ih (k + 1) x (by omega) hx fun j hj => ?_, fun h5 => ⟨by omega, ?_⟩⟩
      · rw [hb j hj]
        constructor
        · rintro ⟨t, ht, ht2⟩; exact ⟨t, by omega, ht2⟩
        · rintro ⟨t, ht, ht2⟩
          by_cases e : t = k
          · subst e; omega
          · exact ⟨t, by omega, ht2⟩
      · obtain ⟨m, hm⟩ : ∃ m : Nat, tL_ p k = (m : Int) := ⟨(tL_ p k).toNat, by omega⟩
        rw [hm]
        have hm5 : m < 5 := by omega
        refine ih (k + 1) _ (by omega) (or_lt hx hm5) fun j hj => ?_
        rw [tb_or hx hm5 hj, Bool.or_eq_true, hb j hj, decide_eq_true_iff]
        constructor
        · rintro (⟨t, ht, ht2⟩ | e)
          · exact ⟨t, by omega, ht2⟩
          · exact ⟨k, by omega, by omega⟩
        · rintro ⟨t, ht, ht2⟩
          by_cases e : t = k
          · subst e; right; omega
          · left; exact ⟨t, by omega, ht2⟩
  exact main (p 4).toNat 0 0 (by omega) (by omega) fun j hj => by
    constructor
    · intro hh
      have : tb 0 j = false := Nat.zero_testBit j
      rw [this] at hh
      cases hh
    · rintro ⟨t, ht, -⟩; omega
theorem c_holder_92 {r : Int} (hS : St V 92 p) (hW : WF p) (h : Q (.inl (some (vi (hdr p r)))) V D) : RY d 236 0 [vr 92, vi r, vr 0] [] V D Q := by
  have h4 : 0 ≤ p 4 ∧ p 4 ≤ 5 := hW.2.1
  have e6 := hS.tens
  refine u_236_0_92 ?_
  unfold hdr at h
  have main : ∀ (n k : Nat), (k : Int) + n = p 4 → (∀ i, i < k → tL_ p i ≠ r) → RY d 236 2 [vr 92, vi r, vi (k : Int)] [] V D Q := by
    intro n
    induction n with
    | zero =>
      intro k hk hall
      refine u_236_2_92 ⟨fun _ => ?_, fun h5 => by omega⟩
      rcases fstB_spec (fun t => decide (tL_ p t = r)) (p 4).toNat with ⟨x, -⟩ | ⟨m, x, y, z, -⟩
      · rw [x] at h; exact h
      · exact absurd (by simpa using z) (hall m (by omega))
    | succ n ih =>
      intro k hk hall
      have hl : V 100 k = tL_ p k := hS.lod (by omega)
      refine u_236_2_92 ⟨fun h5 => by omega, fun _ => ⟨by omega, ?_⟩⟩
      rw [nn_toNat, hl, wr_id (by omega) (by omega)]
      refine ⟨fun h5 => ih (k + 1) (by omega) ?_, fun h5 => ?_⟩
      · intro i hi
        by_cases e : i = k
        · subst e; exact h5
        · exact hall i (by omega)
      · rcases fstB_spec (fun t => decide (tL_ p t = r)) (p 4).toNat with ⟨x, y⟩ | ⟨m, x, y, z, w⟩
        · exact absurd h5 (by simpa using y k (by omega))
        · have : m = k := by
            rcases Nat.lt_trichotomy m k with e | e | e
            · exact absurd (by simpa using z) (hall m e)
            · exact e
            · exact absurd h5 (by simpa using w k e)
          subst this
          rw [x] at h
          exact h
  exact main (p 4).toNat 0 (by omega) (fun i hi => by omega)
theorem c_letRooms_92 (hS : St V 92 p) (hW : WF p) (h : Q (.inl (some (vi (letF p)))) V D) : RY d 214 0 [vr 92, vr 0, vr 0] [] V D Q := by
  have h3 : 0 ≤ p 3 ∧ p 3 ≤ 5 := hW.1
  have h4 : 0 ≤ p 4 ∧ p 4 ≤ 5 := hW.2.1
  have e6 := hS.tens
  refine u_214_0_92 ?_
  have main : ∀ (n k : Nat) (x : Int), (k : Int) + n = p 4 → (0 ≤ x ∧ x < 32) → (∀ j, j < 5 → (tb x j = true ↔ ∃ t, t < k ∧ tL_ p t = (j : Int))) → RY d 214 4 [vr 92, vi x, vi (k : Int)] [] V D Q := by
    intro n
    induction n with
    | zero =>
      intro k x hk hx hb
      refine u_214_4_92 ⟨fun _ => ?_, fun h5 => by omega⟩
      have e : x = letF p := by
        refine tb_ext hx (bitsT_lt (by omega)) fun j hj => ?_
        unfold letF
        rw [tb_bitsT hj (by omega), Bool.eq_iff_iff, hb j hj, Bool.and_eq_true, decide_eq_true_iff, decide_eq_true_iff]
        rcases fstB_spec (fun t => decide (tL_ p t = (j : Int))) (p 4).toNat with ⟨a, b⟩ | ⟨m, a, b, c, -⟩
        · constructor
          · rintro ⟨t, ht, ht2⟩
            exact absurd ht2 (by simpa using b t (by omega))
          · rintro ⟨-, hh⟩
            exact absurd a hh
        · constructor
          · rintro ⟨t, ht, ht2⟩
            have := (hW.ten (t := t) (by omega)).2.2.2
            exact ⟨by omega, by show fstB _ _ ≠ -1; omega⟩
          · rintro -
            exact ⟨m, by omega, by simpa using c⟩
      rw [e]
      exact h
    | succ n ih =>
      intro k x hk hx hb
      have hl : V 100 k = tL_ p k := hS.lod (by omega)
      have hr := (hW.ten (t := k) (by omega)).2.2.2
      refine u_214_4_92 ⟨fun h5 => by omega, fun _ => ⟨by omega, ?_⟩⟩
      rw [nn_toNat, hl, wr_id (by omega) (by omega)]
      refine ⟨fun h5 => ih (k + 1) x (by omega) hx fun j hj => ?_, fun h5 => ⟨by omega, ?_⟩⟩
      · rw [hb j hj]
        constructor
        · rintro ⟨t, ht, ht2⟩; exact ⟨t, by omega, ht2⟩
        · rintro ⟨t, ht, ht2⟩
          by_cases e : t = k
          · subst e; omega
          · exact ⟨t, by omega, ht2⟩
      · obtain ⟨m, hm⟩ : ∃ m : Nat, tL_ p k = (m : Int) := ⟨(tL_ p k).toNat, by omega⟩
        rw [hm]
        have hm5 : m < 5 := by omega
        refine ih (k + 1) _ (by omega) (or_lt hx hm5) fun j hj => ?_
        rw [tb_or hx hm5 hj, Bool.or_eq_true, hb j hj, decide_eq_true_iff]
        constructor
        · rintro (⟨t, ht, ht2⟩ | e)
          · exact ⟨t, by omega, ht2⟩
          · exact ⟨k, by omega, by omega⟩
        · rintro ⟨t, ht, ht2⟩
          by_cases e : t = k
          · subst e; right; omega
          · left; exact ⟨t, by omega, ht2⟩
  exact main (p 4).toNat 0 0 (by omega) (by omega) fun j hj => by
    constructor
    · intro hh
      have : tb 0 j = false := Nat.zero_testBit j
      rw [this] at hh
      cases hh
    · rintro ⟨t, ht, -⟩; omega
/-! ===== the model's ===== -/
theorem m_ofT {t k : Nat} (ht : t < 5) (hk : k < 3) : ((wr ((wr ((51 : Int) + (wr ((3 : Int) * (t : Int))))) + (k : Int))).toNat) = 51 + 3 * t + k := by
  simp only [wr_eq]
  omega
theorem yg143 {t : Nat} {k : Int} (ht : t < 5) (hk : 0 ≤ k ∧ k < 3) : yg_143 (t : Int) k V D := by
  unfold yg_143
  rw [wr_id (x := 3 * (t : Int)) (by omega) (by omega), wr_id (x := 51 + 3 * (t : Int)) (by omega) (by omega), wr_id (by omega) (by omega)]
  omega
theorem yr143 {t k : Nat} (ht : t < 5) (hk : k < 3) : yr_143 (t : Int) (k : Int) V D = V 406 (51 + 3 * t + k) := by
  unfold yr_143
  rw [m_ofT ht hk]
theorem yr143_0 {t : Nat} (ht : t < 5) : yr_143 (t : Int) 0 V D = tP_ (V 406) t := yr143 ht (k := 0) (by omega)
theorem yr143_1 {t : Nat} (ht : t < 5) : yr_143 (t : Int) 1 V D = tW_ (V 406) t := by
  rw [show (1 : Int) = ((1 : Nat) : Int) from rfl, yr143 ht (by omega)]
  show V 406 _ = V 406 _
  rw [show 51 + 3 * t + 1 = 52 + 3 * t by omega]
theorem yr143_2 {t : Nat} (ht : t < 5) : yr_143 (t : Int) 2 V D = tL_ (V 406) t := by
  rw [show (2 : Int) = ((2 : Nat) : Int) from rfl, yr143 ht (by omega)]
  show V 406 _ = V 406 _
  rw [show 51 + 3 * t + 2 = 53 + 3 * t by omega]
theorem m_holder {r : Int} (hr : 0 ≤ r) (hW : WF (V 406)) (h : Q (.inl (some (vi (hdr (V 406) r)))) V D) : RY d 134 0 [vr 405, vi r, vr 0, vr 0] [] V D Q := by
  have h4 : 0 ≤ V 406 4 ∧ V 406 4 ≤ 5 := hW.2.1
  refine u_134_0 ?_
  unfold hdr at h
  have main : ∀ (n k : Nat) (z : Int), (k : Int) + n = V 406 4 → ((z = -1 ∧ ∀ i, i < k → tL_ (V 406) i ≠ r) ∨ ∃ m : Nat, z = (m : Int) ∧ m < k ∧ tL_ (V 406) m = r) → RY d 134 4 [vr 405, vi r, vi z, vi (k : Int)] [] V D Q := by
    intro n
    induction n with
    | zero =>
      intro k z hk hz
      refine u_134_4 ⟨fun _ => ?_, fun h5 => by omega⟩
      rcases fstB_spec (fun t => decide (tL_ (V 406) t = r)) (V 406 4).toNat with ⟨x, y⟩ | ⟨m, x, y, w, -⟩ <;> rw [x] at h <;> rcases hz with ⟨z1, z2⟩ | ⟨m', z1, z2, z3⟩
      · rw [z1]; exact h
      · exact absurd z3 (by simpa using y m' (by omega))
      · exact absurd (by simpa using w) (z2 m (by omega))
      · have w' : tL_ (V 406) m = r := by simpa using w
        have : m' = m := hW.uni (t := m') (u := m) (by omega) (by omega) (by rw [z3, w']) (by omega)
        rw [z1, this]
        exact h
    | succ n ih =>
      intro k z hk hz
      have hr5 : k < 5 := by omega
      refine u_134_4 ⟨fun h5 => by omega, fun _ => ⟨yg143 hr5 (by omega), ?_⟩⟩
      rw [yr143_2 hr5, wr_id (by omega) (by omega)]
      refine ⟨fun h5 => ih (k + 1) z (by omega) ?_, fun h5 => ih (k + 1) k (by omega) (Or.inr ⟨k, rfl, by omega, h5⟩)⟩
      rcases hz with ⟨z1, z2⟩ | ⟨m', z1, z2, z3⟩
      · refine Or.inl ⟨z1, fun i hi => ?_⟩
        by_cases e : i = k
        · subst e; exact h5
        · exact z2 i (by omega)
      · exact Or.inr ⟨m', z1, by omega, z3⟩
  exact main (V 406 4).toNat 0 (-1) (by omega) (Or.inl ⟨rfl, fun i hi => by omega⟩)
theorem m_letOnes (hW : WF (V 406)) (h : Q (.inl (some (vi (letF (V 406))))) V D) : RY d 159 0 [vr 405, vr 0, vr 0] [] V D Q := by
  have h3 : 0 ≤ V 406 3 ∧ V 406 3 ≤ 5 := hW.1
  refine u_159_0 ?_
  have main : ∀ (n k : Nat), (k : Int) + n = V 406 3 → RY d 159 4 [vr 405, vi (bitsT (fun r => decide (hdr (V 406) (r : Int) ≠ -1)) k), vi (k : Int)] [] V D Q := by
    intro n
    induction n with
    | zero =>
      intro k hk
      have : (V 406 3).toNat = k := by omega
      unfold letF at h
      rw [this] at h
      exact u_159_4 ⟨fun _ => h, fun h5 => by omega⟩
    | succ n ih =>
      intro k hk
      have := ih (k + 1) (by omega)
      unfold bitsT at this
      refine u_159_4 ⟨fun h5 => by omega, fun _ => m_holder (by omega) hW (u_159_20 ⟨fun h5 => ?_, fun h5 => ?_⟩)⟩
      · rw [wr_id (by omega) (by omega), xor0 (bitsT_lt (by omega))]
        rw [if_neg (by simpa using h5)] at this
        exact this
      · rw [wr_id (by omega) (by omega)]
        rw [if_pos (by simpa using h5)] at this
        exact this
  exact main (V 406 3).toNat 0 (by omega)
/-- EMPTY -/
def emptyF (p : Rw) : Int := xand (wr (xshl 1 (p 3) - 1)) (xxor (letF p) (-1))
theorem ca_empty (hS : St V 81 p) (hW : WF p) (h : Q (.inl (some (vi (emptyF p)))) V D) : RY d 81 0 [vr 70] [] V D Q := by
  refine u_81_0 ?_
  rw [hS.rooms]
  exact c_letRooms_81 hS hW (u_81_18 h)
theorem ma_empty (hW : WF (V 406)) (h : ∀ V', V' 405 0 = 0 → Cor V V' → Q (.inl (some (vi (emptyF (V 406))))) V' D) : RY d 82 0 [vr 405] [] V D Q := by
  refine u_82_0 ?_
  rintro V1 rfl
  have e6 : up2 V 405 0 0 406 = V 406 := up2_na (by decide)
  have := h _ (up2_at V 405 0 0) (Cor.up405 (by decide) (by decide) (by decide) (by decide))
  unfold emptyF at this
  refine m_letOnes (by rw [e6]; exact hW) ?_
  rw [e6]
  exact u_82_19 this
/-- HOMELESS -/
def homeF (p : Rw) : Int := bitsT (fun t => decide (tL_ p t = -1)) (p 4).toNat
theorem ca_homeless (hS : St V 81 p) (hW : WF p) (h : Q (.inl (some (vi (homeF p)))) V D) : RY d 83 0 [vr 70, vr 0, vr 0] [] V D Q := by
  have h4 : 0 ≤ p 4 ∧ p 4 ≤ 5 := hW.2.1
  have e6 := hS.tens
  refine u_83_0 ?_
  have main : ∀ (n k : Nat), (k : Int) + n = p 4 → RY d 83 4 [vr 70, vi (bitsT (fun t => decide (tL_ p t = -1)) k), vi (k : Int)] [] V D Q := by
    intro n
    induction n with
    | zero =>
      intro k hk
      have : (p 4).toNat = k := by omega
      unfold homeF at h
      rw [this] at h
      exact u_83_4 ⟨fun _ => h, fun h5 => by omega⟩
    | succ n ih =>
      intro k hk
      have hl : V 89 k = tL_ p k := hS.lod (by omega)
      have := ih (k + 1) (by omega)
      unfold bitsT at this
      refine u_83_4 ⟨fun h5 => by omega, fun _ => ⟨by omega, ?_⟩⟩
      rw [nn_toNat, hl, wr_id (by omega) (by omega)]
      refine ⟨fun h5 => ?_, fun h5 => ?_⟩
      · rw [if_neg (by simpa using h5)] at this
        exact this
      · rw [if_pos (by simpa using h5)] at this
        exact this
  exact main (p 4).toNat 0 (by omega)
theorem ma_homeless (hW : WF (V 406)) (h : ∀ V', V' 405 0 = 0 → Cor V V' → Q (.inl (some (vi (homeF (V 406))))) V' D) : RY d 84 0 [vr 405, vr 0, vr 0] [] V D Q := by
  have h4 : 0 ≤ V 406 4 ∧ V 406 4 ≤ 5 := hW.2.1
  refine u_84_0 ?_
  rintro V1 hV1
  have e6 : V1 406 = V 406 := by rw [hV1]; exact up2_na (by decide)
  have hq := h V1 (by rw [hV1]; exact up2_at _ _ _ _) (by rw [hV1]; exact Cor.up405 (by decide) (by decide) (by decide) (by decide))
  clear hV1 h
  rw [← e6] at hq hW h4
  have main : ∀ (n k : Nat), (k : Int) + n = V1 406 4 → RY d 84 9 [vr 405, vi (bitsT (fun t => decide (tL_ (V1 406) t = -1)) k), vi (k : Int)] [] V1 D Q := by
    intro n
    induction n with
    | zero =>
      intro k hk
      have : (V1 406 4).toNat = k := by omega
      unfold homeF at hq
      rw [this] at hq
      exact u_84_9 ⟨fun _ => hq, fun h5 => by omega⟩
    | succ n ih =>
      intro k hk
      have hr5 : k < 5 := by omega
      have := ih (k + 1) (by omega)
      unfold bitsT at this
      refine u_84_9 ⟨fun h5 => by omega, fun _ => ⟨yg143 hr5 (by omega), ?_⟩⟩
      rw [yr143_2 hr5, wr_id (by omega) (by omega)]
      refine ⟨fun h5 => ?_, fun h5 => ?_⟩
      · rw [if_neg (by simpa using h5)] at this
        rw [xor0 (bitsT_lt (by omega))]
        exact this
      · rw [if_pos (by simpa using h5)] at this
        exact this
  exact main (V1 406 4).toNat 0 (by omega)
end SIMPLE
