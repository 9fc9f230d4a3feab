/-! ===== ROWS OF WHAT CAME BACK: THE TAPE ===== -/
/-- a bit of a long -/
def lb (l : Int) (t : Nat) : Bool := (Int64.ofInt l).toBitVec.getLsbD t
theorem lb_or (a b : Int) (t : Nat) : lb (xlor a b) t = (lb a t || lb b t) := by
  unfold lb xlor
  rw [Int64.ofInt_toInt, Int64.toBitVec_or, BitVec.getLsbD_or]
theorem lb_and (a b : Int) (t : Nat) : lb (xland a b) t = (lb a t && lb b t) := by
  unfold lb xland
  rw [Int64.ofInt_toInt, Int64.toBitVec_and, BitVec.getLsbD_and]
theorem lb_0 (t : Nat) : lb 0 t = false := by
  unfold lb
  show (0#64).getLsbD t = false
  simp
theorem lb_1 {t0 t : Nat} (h0 : t0 < 64) (h : t < 64) : lb (xlshl 1 (t0 : Int)) t = decide (t = t0) := by
  have hall : ∀ a : Fin 64, ∀ b : Fin 64, lb (xlshl 1 (a.1 : Int)) b.1 = decide (b.1 = a.1) := by decide +kernel
  exact hall ⟨t0, h0⟩ ⟨t, h⟩
theorem lb_ext {a b : Int} (ha : r64 a) (hb : r64 b) (h : ∀ t, t < 64 → lb a t = lb b t) : a = b := by
  have e : (Int64.ofInt a).toBitVec = (Int64.ofInt b).toBitVec := BitVec.eq_of_getLsbD_eq fun i hi => h i hi
  have e2 : Int64.ofInt a = Int64.ofInt b := Int64.toBitVec_inj.mp e
  rw [← i64_of ha, ← i64_of hb, e2]
theorem r64_or (a b : Int) : r64 (xlor a b) := r64_of _
theorem r64_and (a b : Int) : r64 (xland a b) := r64_of _
theorem z64_0 : r64 0 := by unfold r64; omega
theorem xcmp0 {a b : Int} : xcmp a b = 0 ↔ a = b := by
  unfold xcmp
  (repeat' split) <;> omega
/-- rows of a time and a yes or no -/
def okRows (b : Nat → Int) (n : Int) : Prop := n ≤ 40 ∧ n % 2 = 0 ∧ ∀ j : Nat, 2 * (j : Int) < n → (1 ≤ b (2 * j) ∧ b (2 * j) ≤ 63) ∧ b (2 * j + 1) ≤ 1
/-- m rows fit what is heard -/
def fitB (b : Nat → Int) (f : Nat → Int) : Nat → Bool
  | 0 => true
  | m + 1 => fitB b f m && (decide (0 < f (b (2 * m)).toNat) == decide (b (2 * m + 1) = 1))
theorem fitB_iff {b f : Nat → Int} : ∀ {m : Nat}, fitB b f m = true ↔ ∀ j, j < m → (0 < f (b (2 * j)).toNat ↔ b (2 * j + 1) = 1)
  | 0 => ⟨fun _ j h => by omega, fun _ => rfl⟩
  | m + 1 => by
    unfold fitB
    rw [Bool.and_eq_true, fitB_iff (m := m), beq_iff_eq, decide_eq_decide]
    constructor
    · intro h j hj
      by_cases e : j = m
      · subst e; exact h.2
      · exact h.1 j (by omega)
    · intro h
      exact ⟨fun j hj => h j (by omega), h m (by omega)⟩
/-- what m rows have told -/
def Told (b : Nat → Int) (m : Nat) (L : xF) : Prop := r64 (L 76 7) ∧ r64 (L 76 8) ∧
  (∀ t, t < 64 → (lb (L 76 7) t = true ↔ ∃ j, j < m ∧ b (2 * j) = (t : Int) ∧ b (2 * j + 1) = 1)) ∧ ∀ t, t < 64 → (lb (L 76 8) t = true ↔ ∃ j, j < m ∧ b (2 * j) = (t : Int) ∧ b (2 * j + 1) ≠ 1)
section ROWS
variable {d : Nat} {V : xF} {D : yD} {Q : xRes → xF → yD → Prop} {b : Nat → Int} {n : Int}
theorem c_takeRows (hV : ∀ k, k < 400 → V 77 k = b k) (hb : ∀ k, k < 400 → 0 ≤ b k ∧ b k ≤ 255) (hn : V 76 1 = n) (hn0 : 0 ≤ n ∧ n ≤ 400)
    (h1 : okRows b n → ∀ L, Told b (n / 2).toNat L → Q (.inl (some (vi 1))) (up2 V 76 1 0) (L, D.2)) (h0 : ¬ okRows b n → ∀ L, Q (.inl (some (vi 0))) (up2 V 76 1 0) (L, D.2)) :
    RY d 267 0 [vr 76, vr 0, vr 0, vr 0, vr 0] [] V D Q := by
  have bad : ¬ okRows b n → ∀ (L : xF) i2 v3 v4, RY d 267 36 [vr 76, vi 0, vi i2, v3, v4] [] V (L, D.2) Q := by
    intro hno L i2 v3 v4
    refine u_267_36 ⟨fun _ => ?_, fun h => absurd rfl h⟩
    rintro V1 rfl
    exact ⟨Or.inl rfl, h0 hno L⟩
  have good : n ≤ 40 → n % 2 = 0 → ∀ (m j : Nat) (L : xF) v3 v4, 2 * ((j : Int) + m) = n → (∀ i : Nat, i < j → (1 ≤ b (2 * i) ∧ b (2 * i) ≤ 63) ∧ b (2 * i + 1) ≤ 1) → Told b j L → RY d 267 36 [vr 76, vi 1, vi (((2 * j : Nat)) : Int), v3, v4] [] V (L, D.2) Q := by
    intro g1 g2 m
    induction m with
    | zero =>
      intro j L v3 v4 hj hok ht
      refine u_267_36 ⟨fun h => absurd h (by decide), fun _ => ⟨fun _ => ?_, fun h5 => ?_⟩⟩
      · rintro V2 rfl
        refine ⟨Or.inr rfl, h1 ⟨g1, g2, fun i hi => hok i (by omega)⟩ L ?_⟩
        rw [show (n / 2).toNat = j by omega]
        exact ht
      · rw [hn, wr_id (by omega) (by omega)] at h5
        omega
    | succ m ih =>
      intro j L v3 v4 hj hok ht
      have e1 : (wr ((((2 * j : Nat)) : Int) + 1)).toNat = 2 * j + 1 := by rw [wr_id (by omega) (by omega)]; omega
      have b1 := hb (2 * j) (by omega)
      have b2 := hb (2 * j + 1) (by omega)
      refine u_267_36 ⟨fun h => absurd h (by decide), fun _ => ⟨fun h5 => ?_, fun _ => ?_⟩⟩
      · rw [hn, wr_id (by omega) (by omega)] at h5
        omega
      · rw [e1, nn_toNat, hV (2 * j) (by omega), hV (2 * j + 1) (by omega), wr_id (x := (((2 * j : Nat)) : Int) + 1) (by omega) (by omega), wr_id (x := (((2 * j : Nat)) : Int) + 2) (by omega) (by omega)]
        have hno : ¬ ((1 ≤ b (2 * j) ∧ b (2 * j) ≤ 63) ∧ b (2 * j + 1) ≤ 1) → ¬ okRows b n := fun h h9 => h (h9.2.2 j (by omega))
        refine ⟨by omega, by omega, fun h5 => bad (hno (by omega)) L _ _ _, fun h5 => ⟨fun h6 => bad (hno (by omega)) L _ _ _, fun h6 => ⟨fun h7 => ?_, fun h7 => bad (hno (by omega)) L _ _ _⟩⟩⟩
        obtain ⟨t, ht0⟩ : ∃ t : Nat, b (2 * j) = (t : Int) := ⟨(b (2 * j)).toNat, by omega⟩
        have ht64 : t < 64 := by omega
        have hok' : ∀ i : Nat, i < j + 1 → (1 ≤ b (2 * i) ∧ b (2 * i) ≤ 63) ∧ b (2 * i + 1) ≤ 1 := by
          intro i hi
          by_cases e : i = j
          · subst e; exact ⟨⟨h5, h6⟩, h7⟩
          · exact hok i (by omega)
        have e2 : (((2 * j : Nat)) : Int) + 2 = ((2 * (j + 1) : Nat) : Int) := by omega
        rw [e2]
        refine ⟨fun h8 => ?_, fun h8 => ?_⟩
        · rintro D3 rfl
          refine ih (j + 1) _ _ _ (by omega) hok' ⟨?_, ?_, fun u hu => ?_, fun u hu => ?_⟩
          · dsimp only; rw [up2_ni (by decide)]; exact ht.1
          · dsimp only; rw [up2_at]; exact r64_or _ _
          · dsimp only
            rw [up2_ni (by decide), ht.2.2.1 u hu]
            constructor
            · rintro ⟨i, a, c, e⟩
              exact ⟨i, by omega, c, e⟩
            · rintro ⟨i, a, c, e⟩
              by_cases ei : i = j
              · subst ei; exact absurd e h8
              · exact ⟨i, by omega, c, e⟩
          · dsimp only
            rw [up2_at, lb_or, ht0, lb_1 ht64 hu, Bool.or_eq_true, ht.2.2.2 u hu, decide_eq_true_iff]
            constructor
            · rintro (⟨i, a, c, e⟩ | e)
              · exact ⟨i, by omega, c, e⟩
              · exact ⟨j, by omega, by omega, h8⟩
            · rintro ⟨i, a, c, e⟩
              by_cases ei : i = j
              · subst ei; right; omega
              · left; exact ⟨i, by omega, c, e⟩
        · rintro D3 rfl
          refine ih (j + 1) _ _ _ (by omega) hok' ⟨?_, ?_, fun u hu => ?_, fun u hu => ?_⟩
          · dsimp only; rw [up2_at]; exact r64_or _ _
          · dsimp only; rw [up2_ni (by decide)]; exact ht.2.1
          · dsimp only
            rw [up2_at, lb_or, ht0, lb_1 ht64 hu, Bool.or_eq_true, ht.2.2.1 u hu, decide_eq_true_iff]
            constructor
            · rintro (⟨i, a, c, e⟩ | e)
              · exact ⟨i, by omega, c, e⟩
              · exact ⟨j, by omega, by omega, h8⟩
            · rintro ⟨i, a, c, e⟩
              by_cases ei : i = j
              · subst ei; right; omega
              · left; exact ⟨i, by omega, c, e⟩
          · dsimp only
            rw [up2_ni (by decide), ht.2.2.2 u hu]
            constructor
            · rintro ⟨i, a, c, e⟩
              exact ⟨i, by omega, c, e⟩
            · rintro ⟨i, a, c, e⟩
              by_cases ei : i = j
              · subst ei; exact absurd h8 e
              · exact ⟨i, by omega, c, e⟩
  have tm : n.tmod 2 = n % 2 := tmod_nn hn0.1
  refine u_267_0 ⟨fun h => ?_, fun h => ⟨fun h' => ?_, fun h' => ?_⟩⟩
  · rintro D1 rfl D2 rfl
    exact bad (fun h9 => by have := h9.1; omega) _ _ _ _
  · rintro D1 rfl D2 rfl
    rw [hn, tm] at h'
    exact bad (fun h9 => h' h9.2.1) _ _ _ _
  · rintro D1 rfl D2 rfl
    rw [hn, tm] at h'
    refine good (by omega) h' (n / 2).toNat 0 _ _ _ (by omega) (fun i hi => by omega) ⟨?_, ?_, fun u hu => ?_, fun u hu => ?_⟩
    · dsimp only; rw [up2_ni (by decide), up2_at]; exact z64_0
    · dsimp only; rw [up2_at]; exact z64_0
    · dsimp only
      rw [up2_ni (by decide), up2_at, lb_0]
      exact ⟨fun h => (nomatch h), fun ⟨i, a, _⟩ => by omega⟩
    · dsimp only
      rw [up2_at, lb_0]
      exact ⟨fun h => (nomatch h), fun ⟨i, a, _⟩ => by omega⟩
theorem c_timesOf {q : Nat} {f : Nat → Int} (hq : isRep q) (hf : ∀ t, t < 48 → V q t = f t)
    (h : ∀ l, r64 l → (∀ t, t < 64 → (lb l t = true ↔ (t < 48 ∧ 0 < f t))) → Q (.inl (some (vl l))) V D) : RY d 332 0 [vr q, vr 0, vr 0, vr 0] [] V D Q := by
  refine u_332_0 ?_
  have hqn := rep_ne hq
  have hK := rep_K hq D.2.2.1
  have main : ∀ (n k : Nat) (l : Int), k + n = 48 → r64 l → (∀ t, t < 64 → (lb l t = true ↔ (t < k ∧ 0 < f t))) → RY d 332 4 [vr q, vl l, vr 0, vi (k : Int)] [] V D Q := by
    intro n
    induction n with
    | zero =>
      intro k l hk hl hb
      have : k = 48 := by omega
      subst this
      exact u_332_4 ⟨fun _ => h l hl hb, fun h5 => by omega⟩
    | succ n ih =>
      intro k l hk hl hb
      refine u_332_4 ⟨fun h5 => by omega, fun _ => ?_⟩
      rw [hK, nn_toNat, hf k (by omega), wr_id (x := (k : Int) + 1) (by omega) (by omega)]
      refine ⟨hqn.1, ⟨by omega, by omega⟩, ⟨by omega, by dsimp only; omega⟩, fun h5 => ?_, fun h5 => ?_⟩
      · refine ih (k + 1) l (by omega) hl fun t ht => ?_
        rw [hb t ht]
        constructor
        · intro h9; exact ⟨by omega, h9.2⟩
        · intro h9
          by_cases e : t = k
          · subst e; omega
          · exact ⟨by omega, h9.2⟩
      · refine ih (k + 1) _ (by omega) (r64_or _ _) fun t ht => ?_
        rw [lb_or, lb_1 (by omega) ht, Bool.or_eq_true, hb t ht, decide_eq_true_iff]
        constructor
        · rintro (h9 | h9)
          · exact ⟨by omega, h9.2⟩
          · subst h9; exact ⟨by omega, h5⟩
        · intro h9
          by_cases e : t = k
          · exact Or.inr e
          · exact Or.inl ⟨by omega, h9.2⟩
  exact main 48 0 0 (by omega) z64_0 (fun t ht => by rw [lb_0]; exact ⟨fun h => (nomatch h), fun h => by omega⟩)
theorem c_rowsFit {q m : Nat} {f : Nat → Int} (hq : isRep q) (hf : ∀ t, t < 48 → V q t = f t) (hz : ∀ t, 48 ≤ t → f t ≤ 0) (hT : Told b m D.1) (hb : ∀ j, j < m → 1 ≤ b (2 * j) ∧ b (2 * j) ≤ 63)
    (h : Q (.inl (some (vi (if fitB b f m then 1 else 0)))) V D) : RY d 273 0 [vr 76, vr q, vr 0, vr 0] [] V D Q := by
  refine u_273_0 ⟨(rep_ne hq).1, c_timesOf hq hf ?_⟩
  intro l hl hlb
  obtain ⟨t1, t2, t3, t4⟩ := hT
  have iff1 : xland l (D.1 76 7) = D.1 76 7 ↔ ∀ j, j < m → b (2 * j + 1) = 1 → 0 < f (b (2 * j)).toNat := by
    constructor
    · intro e j hj hj1
      have hbj := hb j hj
      have h2 : lb (D.1 76 7) (b (2 * j)).toNat = true := (t3 _ (by omega)).mpr ⟨j, hj, by omega, hj1⟩
      rw [← e, lb_and, Bool.and_eq_true, hlb _ (by omega)] at h2
      exact h2.1.2
    · intro hall
      refine lb_ext (r64_and _ _) t1 fun t ht => ?_
      rw [lb_and]
      cases hM : lb (D.1 76 7) t with
      | false => simp
      | true =>
        obtain ⟨j, hj, hj2, hj3⟩ := (t3 t ht).mp hM
        have := hall j hj hj3
        rw [hj2, nn_toNat] at this
        have hlt : lb l t = true := (hlb t ht).mpr ⟨Nat.lt_of_not_le fun h9 => by have := hz t h9; omega, this⟩
        rw [hlt]
        rfl
  have iff2 : xland l (D.1 76 8) = 0 ↔ ∀ j, j < m → b (2 * j + 1) ≠ 1 → ¬ 0 < f (b (2 * j)).toNat := by
    constructor
    · intro e j hj hj1 hpos
      have hbj := hb j hj
      have h2 : lb (D.1 76 8) (b (2 * j)).toNat = true := (t4 _ (by omega)).mpr ⟨j, hj, by omega, hj1⟩
      have h3 : lb l (b (2 * j)).toNat = true := (hlb _ (by omega)).mpr ⟨Nat.lt_of_not_le fun h9 => by have := hz _ h9; omega, hpos⟩
      have h4 : lb (xland l (D.1 76 8)) (b (2 * j)).toNat = true := by rw [lb_and, h2, h3]; rfl
      rw [e, lb_0] at h4
      cases h4
    · intro hall
      refine lb_ext (r64_and _ _) z64_0 fun t ht => ?_
      rw [lb_and, lb_0]
      cases hM : lb (D.1 76 8) t with
      | false => simp
      | true =>
        obtain ⟨j, hj, hj2, hj3⟩ := (t4 t ht).mp hM
        have := hall j hj hj3
        rw [hj2, nn_toNat] at this
        cases hl2 : lb l t with
        | false => rfl
        | true => exact absurd ((hlb t ht).mp hl2).2 this
  have key : fitB b f m = true ↔ (xland l (D.1 76 7) = D.1 76 7 ∧ xland l (D.1 76 8) = 0) := by
    rw [fitB_iff, iff1, iff2]
    constructor
    · intro h9
      exact ⟨fun j hj h1 => (h9 j hj).mpr h1, fun j hj h1 h2 => h1 ((h9 j hj).mp h2)⟩
    · intro h9 j hj
      constructor
      · intro h2
        by_cases h1 : b (2 * j + 1) = 1
        · exact h1
        · exact absurd h2 (h9.2 j hj h1)
      · exact h9.1 j hj
  refine u_273_4 ⟨fun h5 => ?_, fun h5 => ⟨fun h6 => ?_, fun h6 => ?_⟩⟩
  · rw [if_neg (fun h9 => h5 (xcmp0.mpr (key.mp h9).1))] at h
    exact h
  · rw [if_neg (fun h9 => h6 (xcmp0.mpr (key.mp h9).2))] at h
    exact h
  · rw [if_pos (key.mpr ⟨xcmp0.mp h5, xcmp0.mp h6⟩)] at h
    exact h
/-! ===== the model's ===== -/
theorem m_areRows (hV : ∀ k, k < 400 → V 410 k = b k) (hb : ∀ k, k < 400 → 0 ≤ b k ∧ b k ≤ 255) (hn0 : 0 ≤ n ∧ n ≤ 400)
    (h1 : okRows b n → Q (.inl (some (vi 1))) V D) (h0 : ¬ okRows b n → Q (.inl (some (vi 0))) V D) : RY d 270 0 [vr 405, vi n, vr 0, vr 0] [] V D Q := by
  have bad : ¬ okRows b n → ∀ i3, RY d 270 20 [vr 405, vi n, vi 0, vi i3] [] V D Q := by
    intro hno i3
    exact u_270_20 ⟨fun _ => ⟨Or.inl rfl, h0 hno⟩, fun _ => ⟨fun _ => ⟨Or.inl rfl, h0 hno⟩, fun h => absurd rfl h⟩⟩
  have good : n ≤ 40 → n % 2 = 0 → ∀ (m j : Nat), 2 * ((j : Int) + m) = n → (∀ i : Nat, i < j → (1 ≤ b (2 * i) ∧ b (2 * i) ≤ 63) ∧ b (2 * i + 1) ≤ 1) → RY d 270 20 [vr 405, vi n, vi 1, vi (((2 * j : Nat)) : Int)] [] V D Q := by
    intro g1 g2 m
    induction m with
    | zero =>
      intro j hj hok
      exact u_270_20 ⟨fun _ => ⟨Or.inr rfl, h1 ⟨g1, g2, fun i hi => hok i (by omega)⟩⟩, fun h5 => by omega⟩
    | succ m ih =>
      intro j hj hok
      have e1 : (wr ((((2 * j : Nat)) : Int) + 1)).toNat = 2 * j + 1 := by rw [wr_id (by omega) (by omega)]; omega
      have b1 := hb (2 * j) (by omega)
      have b2 := hb (2 * j + 1) (by omega)
      refine u_270_20 ⟨fun h5 => by omega, fun _ => ⟨fun h => absurd h (by decide), fun _ => ?_⟩⟩
      rw [e1, nn_toNat, hV (2 * j) (by omega), hV (2 * j + 1) (by omega), wr_id (x := (((2 * j : Nat)) : Int) + 1) (by omega) (by omega), wr_id (x := (((2 * j : Nat)) : Int) + 2) (by omega) (by omega), yr124]
      have hno : ¬ ((1 ≤ b (2 * j) ∧ b (2 * j) ≤ 63) ∧ b (2 * j + 1) ≤ 1) → ¬ okRows b n := fun h h9 => h (h9.2.2 j (by omega))
      by_cases hc : 1 ≤ b (2 * j) ∧ b (2 * j) ≤ 63
      · rw [if_pos hc]
        refine ⟨by omega, fun h => absurd h (by decide), fun _ => ⟨by omega, fun h5 => bad (hno (by omega)) _, fun h5 => ?_⟩⟩
        rw [show (((2 * j : Nat)) : Int) + 2 = ((2 * (j + 1) : Nat) : Int) by omega]
        refine ih (j + 1) (by omega) fun i hi => ?_
        by_cases e : i = j
        · subst e; exact ⟨hc, by omega⟩
        · exact hok i (by omega)
      · rw [if_neg hc]
        exact ⟨by omega, fun _ => bad (hno (fun h => hc h.1)) _, fun h => absurd rfl h⟩
  have tm : n.tmod 2 = n % 2 := tmod_nn hn0.1
  refine u_270_0 ⟨fun h => ?_, fun h => ⟨fun h' => ?_, fun h' => ?_⟩⟩
  · rw [tm] at h
    exact bad (fun h9 => h h9.2.1) _
  · exact bad (fun h9 => by have := h9.1; omega) _
  · rw [tm] at h
    exact good h' h (n / 2).toNat 0 (by omega) (fun i hi => by omega)
theorem m_isAsTold {f : Nat → Int} {m : Nat} (hm : m ≤ 20) (hV : ∀ k, k < 400 → V 410 k = b k) (hb : ∀ j, j < m → 1 ≤ b (2 * j) ∧ b (2 * j) ≤ 63) (hf : ∀ t, t < 64 → V 412 t = f t)
    (h : Q (.inl (some (vi (if fitB b f m then 1 else 0)))) V D) : RY d 187 0 [vr 405, vi (((2 * m : Nat)) : Int), vr 0, vr 0] [] V D Q := by
  refine u_187_0 ?_
  have no : fitB b f m = false → ∀ i3, RY d 187 4 [vr 405, vi (((2 * m : Nat)) : Int), vi 0, vi i3] [] V D Q := by
    intro hno i3
    rw [hno] at h
    exact u_187_4 ⟨fun _ => ⟨Or.inl rfl, h⟩, fun _ => ⟨fun _ => ⟨Or.inl rfl, h⟩, fun h => absurd rfl h⟩⟩
  have main : ∀ (k j : Nat), j + k = m → fitB b f j = true → RY d 187 4 [vr 405, vi (((2 * m : Nat)) : Int), vi 1, vi (((2 * j : Nat)) : Int)] [] V D Q := by
    intro k
    induction k with
    | zero =>
      intro j hj he
      have : j = m := by omega
      subst this
      rw [he] at h
      exact u_187_4 ⟨fun _ => ⟨Or.inr rfl, h⟩, fun h5 => by omega⟩
    | succ k ih =>
      intro j hj he
      have e1 : (wr ((((2 * j : Nat)) : Int) + 1)).toNat = 2 * j + 1 := by rw [wr_id (by omega) (by omega)]; omega
      have hbj := hb j (by omega)
      have hno : ¬ (0 < f (b (2 * j)).toNat ↔ b (2 * j + 1) = 1) → fitB b f m = false := by
        intro hx
        cases hB : fitB b f m with
        | false => rfl
        | true => exact absurd (fitB_iff.mp hB j (by omega)) hx
      have hyes : (0 < f (b (2 * j)).toNat ↔ b (2 * j + 1) = 1) → fitB b f (j + 1) = true := by
        intro hx
        unfold fitB
        rw [he, Bool.true_and, beq_iff_eq, decide_eq_decide]
        exact hx
      refine u_187_4 ⟨fun h5 => by omega, fun _ => ⟨fun h => absurd h (by decide), fun _ => ?_⟩⟩
      rw [e1, nn_toNat, hV (2 * j) (by omega), hV (2 * j + 1) (by omega), hf _ (by omega), wr_id (x := (((2 * j : Nat)) : Int) + 1) (by omega) (by omega), wr_id (x := (((2 * j : Nat)) : Int) + 2) (by omega) (by omega)]
      rw [show (((2 * j : Nat)) : Int) + 2 = ((2 * (j + 1) : Nat) : Int) by omega]
      refine ⟨by omega, by omega, fun h5 => ⟨by omega, fun h6 => ?_, fun h6 => ?_⟩, fun h5 => ⟨by omega, fun h6 => ?_, fun h6 => ?_⟩⟩
      · exact ih (j + 1) (by omega) (hyes ⟨fun h9 => by omega, fun h9 => absurd h9 h6⟩)
      · exact no (hno fun h9 => by have := h9.mpr h6; omega) _
      · exact no (hno fun h9 => h6 (h9.mp h5)) _
      · exact ih (j + 1) (by omega) (hyes ⟨fun _ => h6, fun _ => h5⟩)
  exact main m 0 (by omega) rfl
end ROWS
