/-! ===== A LAW IS MADE: METHODS 312 AND 234 ===== -/
theorem yR_lt {lw : Nat → Nat} {kd kd' : Nat → Nat × Nat} {a j : Nat} (h : a < 421) : yR lw kd a j = yR lw kd' a j := by
  unfold yR
  rw [show Nat.blt a 421 = true from Nat.ble_eq_true_of_le h]
theorem yst_ge {a : Nat} (h : 421 ≤ a) : yst a = false := by
  unfold yst
  have : Nat.blt a 421 = false := by
    cases e : Nat.blt a 421
    · rfl
    · exact absurd (Nat.le_of_ble_eq_true e) (by omega)
  rw [this]
theorem yR_ge {lw : Nat → Nat} {kd : Nat → Nat × Nat} {a j : Nat} (h : 421 ≤ a) : yR lw kd a j = if (kd a).1 = 3 ∧ 1 ≤ j ∧ j ≤ 4 then a + j else 0 := by
  unfold yR
  have hb : Nat.blt a 421 = false := by
    cases e : Nat.blt a 421
    · rfl
    · exact absurd (Nat.le_of_ble_eq_true e) (by omega)
  rw [yst_ge h, hb]
  have hm : (match Nat.beq (kd a).1 3, Nat.ble 1 j, Nat.ble j 4 with
      | true, true, true => a + j
      | _, _, _ => 0) = if (kd a).1 = 3 ∧ 1 ≤ j ∧ j ≤ 4 then a + j else 0 := by
    cases e1 : Nat.beq (kd a).1 3 <;> cases e2 : Nat.ble 1 j <;> cases e3 : Nat.ble j 4
    case true.true.true => rw [if_pos ⟨Nat.eq_of_beq_eq_true e1, Nat.le_of_ble_eq_true e2, Nat.le_of_ble_eq_true e3⟩]
    all_goals
      rw [if_neg]
      rintro ⟨f1, f2, f3⟩
      have g1 : Nat.beq (kd a).1 3 = true := by rw [f1]; rfl
      have g2 : Nat.ble 1 j = true := Nat.ble_eq_true_of_le f2
      have g3 : Nat.ble j 4 = true := Nat.ble_eq_true_of_le f3
      simp_all
  cases Nat.beq j 11 <;> exact hm
theorem yK_ge {kd : Nat → Nat × Nat} {a : Nat} (h : 421 ≤ a) : yK kd a = kd a := by
  unfold yK
  have hb : Nat.blt a 421 = false := by
    cases e : Nat.blt a 421
    · rfl
    · exact absurd (Nat.le_of_ble_eq_true e) (by omega)
  rw [hb]
theorem yK_same {kd kd' : Nat → Nat × Nat} {a : Nat} (h : a < 421) (h1 : kd 1 = kd' 1) : yK kd a = yK kd' a := by
  unfold yK
  rw [h1, show Nat.blt a 421 = true from Nat.ble_eq_true_of_le h]
def cpF (W : xF) (t s m len : Nat) : xF := fun b j => if b = t then (if j < m ∧ j < len then W s j else 0) else W b j
theorem cpF_n {W : xF} {t s m len b : Nat} (h : b ≠ t) : cpF W t s m len b = W b := by funext j; exact if_neg h
theorem cpF_at {W : xF} {t s m len j : Nat} (h : j < m ∧ j < len) : cpF W t s m len t j = W s j := by unfold cpF; rw [if_pos rfl, if_pos h]
theorem up1_n {α : Type} {f : Nat → α} {a b : Nat} {z : α} (h : b ≠ a) : up1 f a z b = f b := if_neg h
theorem up1_at {α : Type} {f : Nat → α} {a : Nat} {z : α} : up1 f a z a = z := if_pos rfl
theorem zr_n {f : xF} {n b : Nat} (h : b ≠ n) : zr f n b = f b := by funext j; exact if_neg h
theorem zrR_n {f : xR} {n b : Nat} (h : b ≠ n) : zrR f n b = f b := by funext j; exact if_neg h
theorem zrR_at {f : xR} {n : Nat} : zrR f n n = fun _ => 0 := by funext j; exact if_pos rfl
theorem xal5 {a b c d e : Prop} (h : a ∧ b ∧ c ∧ d ∧ e) : xall [a, b, c, d, e] := h
theorem xal4 {a b c d : Prop} (h : a ∧ b ∧ c ∧ d) : xall [a, b, c, d] := h
theorem xal7 {a b c d e f g : Prop} (h : a ∧ b ∧ c ∧ d ∧ e ∧ f ∧ g) : xall [a, b, c, d, e, f, g] := h
theorem xal1 {a : Prop} (h : a) : xall [a] := h
theorem xal2 {a b : Prop} (h : a ∧ b) : xall [a, b] := h
theorem xal3 {a b c : Prop} (h : a ∧ b ∧ c) : xall [a, b, c] := h
theorem xal14 {a b c d e f g h i j k l m n : Prop} (H : a ∧ b ∧ c ∧ d ∧ e ∧ f ∧ g ∧ h ∧ i ∧ j ∧ k ∧ l ∧ m ∧ n) : xall [a, b, c, d, e, f, g, h, i, j, k, l, m, n] := H
/-- what a new law's object leaves -/
def MadeA (n l e : Nat) (W W' Lg Lg' : xF) (R R' : xR) (K K' : Nat → Nat × Nat) : Prop :=
  (∀ a, a < n ∨ n + 5 ≤ a → W' a = W a) ∧ W' n 0 = (l : Int) ∧ (∀ j, j < l → W' (n + 1) j = W 249 j) ∧ (∀ j, j < l → W' (n + 2) j = W 250 j) ∧ (∀ j, j < l → W' (n + 3) j = W 251 j) ∧ (∀ j, j < e → W' (n + 4) j = W 252 j) ∧
  (∀ a, a < n → Lg' a = Lg a) ∧
  (∀ a j, R' a j = if a = n ∧ 1 ≤ j ∧ j ≤ 4 then n + j else if n < a ∧ a < n + 5 then 0 else R a j) ∧
  (∀ a, K' a = if a = n + 4 then (20, e) else if n < a ∧ a < n + 4 then (20, l) else K a)
theorem law_init {d n l e : Nat} {W Lg : xF} {R : xR} {K : Nat → Nat × Nat} {c s : Nat} {Q : xRes → xM → Prop}
    (hK : (K n).1 = 3) (h1 : K 249 = (20, 12)) (h2 : K 250 = (20, 12)) (h3 : K 251 = (20, 12)) (h4 : K 252 = (20, 800)) (hn : 421 ≤ n) (h12 : l ≤ 12) (h800 : e ≤ 800) (he : l = 0 ∧ e = 0 ∨ 1 ≤ l ∧ W 251 (l - 1) = (e : Int))
    (h : ∀ W' Lg' R' K', MadeA n l e W W' Lg Lg' R R' K K' → Q (.inl none) (W', Lg', R', K', n + 5, c + 4, s + l + l + l + e)) :
    Runs xPP d 312 0 [vr n, vi (l : Int), vr 249, vr 250, vr 251, vr 252] [] (W, Lg, R, K, n + 1, c, s) Q := by
  have n0 : n ≠ 0 := by omega
  have hl0 : (0 : Int) ≤ (l : Int) ∧ (l : Int) ≤ 60000000 := by omega
  have he0 : (0 : Int) ≤ (e : Int) ∧ (e : Int) ≤ 60000000 := by omega
  refine Runs.blk (c := xk_312) (n := 5) rfl rfl (xal4 ⟨n0, rfl, n0, hK⟩) ?_
  show Runs xPP d 312 9 [vr n, vi (l : Int), vr 249, vr 250, vr 251, vr 252] [] (up2 W n 0 (l : Int), Lg, R, K, n + 1, c, s) Q
  obtain ⟨W1, hW1⟩ : ∃ W1, W1 = up2 W n 0 (l : Int) := ⟨_, rfl⟩
  rw [← hW1]
  refine Runs.blk (c := xk_312) (n := 5) rfl rfl (xal7 ⟨n0, (by decide), by show (K 249).1 = 20; rw [h1], hl0, rfl, by show (up1 K (n + 1) (20, l) n).1 = 3; rw [up1_n (by omega)]; exact hK, by show n + 1 ≠ 0; omega⟩) ?_
  show Runs xPP d 312 18 [vr n, vi (l : Int), vr 249, vr 250, vr 251, vr 252] [] (cpF W1 (n + 1) 249 l (K 249).2, zr Lg (n + 1), up2 (zrR R (n + 1)) n 1 (n + 1), up1 K (n + 1) (20, l), n + 1 + 1, c + 1, s + l) Q
  obtain ⟨W2, hW2⟩ : ∃ W2, W2 = cpF W1 (n + 1) 249 l (K 249).2 := ⟨_, rfl⟩
  obtain ⟨L2, hL2⟩ : ∃ L2, L2 = zr Lg (n + 1) := ⟨_, rfl⟩
  obtain ⟨R2, hR2⟩ : ∃ R2, R2 = up2 (zrR R (n + 1)) n 1 (n + 1) := ⟨_, rfl⟩
  obtain ⟨K2, hK2⟩ : ∃ K2, K2 = up1 K (n + 1) (20, l) := ⟨_, rfl⟩
  rw [← hW2, ← hL2, ← hR2, ← hK2]
  have k2 : ∀ a, a ≠ n + 1 → K2 a = K a := fun a ha => by rw [hK2, up1_n ha]
  refine Runs.blk (c := xk_312) (n := 5) rfl rfl (xal7 ⟨n0, (by decide), by show (K2 250).1 = 20; rw [k2 250 (by omega), h2], hl0, rfl, by show (up1 K2 (n + 1 + 1) (20, l) n).1 = 3; rw [up1_n (by omega), k2 n (by omega)]; exact hK, by show n + 1 + 1 ≠ 0; omega⟩) ?_
  show Runs xPP d 312 27 [vr n, vi (l : Int), vr 249, vr 250, vr 251, vr 252] [] (cpF W2 (n + 1 + 1) 250 l (K2 250).2, zr L2 (n + 1 + 1), up2 (zrR R2 (n + 1 + 1)) n 2 (n + 1 + 1), up1 K2 (n + 1 + 1) (20, l), n + 1 + 1 + 1, c + 1 + 1, s + l + l) Q
  obtain ⟨W3, hW3⟩ : ∃ W3, W3 = cpF W2 (n + 1 + 1) 250 l (K2 250).2 := ⟨_, rfl⟩
  obtain ⟨L3, hL3⟩ : ∃ L3, L3 = zr L2 (n + 1 + 1) := ⟨_, rfl⟩
  obtain ⟨R3, hR3⟩ : ∃ R3, R3 = up2 (zrR R2 (n + 1 + 1)) n 2 (n + 1 + 1) := ⟨_, rfl⟩
  obtain ⟨K3, hK3⟩ : ∃ K3, K3 = up1 K2 (n + 1 + 1) (20, l) := ⟨_, rfl⟩
  rw [← hW3, ← hL3, ← hR3, ← hK3]
  have k3 : ∀ a, a ≠ n + 1 + 1 → K3 a = K2 a := fun a ha => by rw [hK3, up1_n ha]
  refine Runs.blk (c := xk_312) (n := 5) rfl rfl (xal7 ⟨n0, (by decide), by show (K3 251).1 = 20; rw [k3 251 (by omega), k2 251 (by omega), h3], hl0, rfl, by show (up1 K3 (n + 1 + 1 + 1) (20, l) n).1 = 3; rw [up1_n (by omega), k3 n (by omega), k2 n (by omega)]; exact hK, by show n + 1 + 1 + 1 ≠ 0; omega⟩) ?_
  show Runs xPP d 312 37 [vr n, vi (l : Int), vr 249, vr 250, vr 251, vr 252] [] (cpF W3 (n + 1 + 1 + 1) 251 l (K3 251).2, zr L3 (n + 1 + 1 + 1), up2 (zrR R3 (n + 1 + 1 + 1)) n 3 (n + 1 + 1 + 1), up1 K3 (n + 1 + 1 + 1) (20, l), n + 1 + 1 + 1 + 1, c + 1 + 1 + 1, s + l + l + l) Q
  obtain ⟨W4, hW4⟩ : ∃ W4, W4 = cpF W3 (n + 1 + 1 + 1) 251 l (K3 251).2 := ⟨_, rfl⟩
  obtain ⟨L4, hL4⟩ : ∃ L4, L4 = zr L3 (n + 1 + 1 + 1) := ⟨_, rfl⟩
  obtain ⟨R4, hR4⟩ : ∃ R4, R4 = up2 (zrR R3 (n + 1 + 1 + 1)) n 3 (n + 1 + 1 + 1) := ⟨_, rfl⟩
  obtain ⟨K4, hK4⟩ : ∃ K4, K4 = up1 K3 (n + 1 + 1 + 1) (20, l) := ⟨_, rfl⟩
  rw [← hW4, ← hL4, ← hR4, ← hK4]
  have k4 : ∀ a, a ≠ n + 1 + 1 + 1 → K4 a = K3 a := fun a ha => by rw [hK4, up1_n ha]
  have q4 : ∀ a, a < n + 1 → K4 a = K a := fun a ha => by rw [k4 a (by omega), k3 a (by omega), k2 a (by omega)]
  have w4 : ∀ a, a < n → W4 a = W a := fun a ha => by rw [hW4, cpF_n (by omega), hW3, cpF_n (by omega), hW2, cpF_n (by omega), hW1, up2_na (by omega)]
  -- the tail: the code is copied
  have tail : Runs xPP d 312 54 [vr n, vi (l : Int), vr 249, vr 250, vr 251, vr 252] [vi (e : Int), vr 252, vr n] (W4, L4, R4, K4, n + 1 + 1 + 1 + 1, c + 1 + 1 + 1, s + l + l + l) Q := by
    refine Runs.blk (c := xk_312) (n := 2) rfl rfl (xal5 ⟨by show (K4 252).1 = 20; rw [q4 252 (by omega), h4], he0, rfl, by show (up1 K4 (n + 1 + 1 + 1 + 1) (20, e) n).1 = 3; rw [up1_n (by omega), q4 n (by omega)]; exact hK, by show n + 1 + 1 + 1 + 1 ≠ 0; omega⟩) ?_
    show Runs xPP d 312 60 [vr n, vi (l : Int), vr 249, vr 250, vr 251, vr 252] [] (cpF W4 (n + 1 + 1 + 1 + 1) 252 e (K4 252).2, zr L4 (n + 1 + 1 + 1 + 1), up2 (zrR R4 (n + 1 + 1 + 1 + 1)) n 4 (n + 1 + 1 + 1 + 1), up1 K4 (n + 1 + 1 + 1 + 1) (20, e), n + 1 + 1 + 1 + 1 + 1, c + 1 + 1 + 1 + 1, s + l + l + l + e) Q
    refine Runs.stop (c := xk_312) (g := []) rfl rfl trivial ?_
    refine h _ _ _ _ ⟨fun a ha => ?_, ?_, fun j hj => ?_, fun j hj => ?_, fun j hj => ?_, fun j hj => ?_, fun a ha => ?_, fun a j => ?_, fun a => ?_⟩
    · rw [cpF_n (by omega), hW4, cpF_n (by omega), hW3, cpF_n (by omega), hW2, cpF_n (by omega), hW1, up2_na (by omega)]
    · rw [cpF_n (by omega), hW4, cpF_n (by omega), hW3, cpF_n (by omega), hW2, cpF_n (by omega), hW1, up2_at]
    · rw [cpF_n (by omega), hW4, cpF_n (by omega), hW3, cpF_n (by omega), hW2, cpF_at ⟨hj, by rw [h1]; show j < 12; omega⟩, hW1, up2_na (by omega)]
    · rw [cpF_n (by omega), hW4, cpF_n (by omega), hW3, cpF_at ⟨hj, by rw [k2 250 (by omega), h2]; show j < 12; omega⟩, hW2, cpF_n (by omega), hW1, up2_na (by omega)]
    · rw [cpF_n (by omega), hW4, cpF_at ⟨hj, by rw [k3 251 (by omega), k2 251 (by omega), h3]; show j < 12; omega⟩, hW3, cpF_n (by omega), hW2, cpF_n (by omega), hW1, up2_na (by omega)]
    · rw [cpF_at ⟨hj, by rw [q4 252 (by omega), h4]; show j < 800; omega⟩, w4 252 (by omega)]
    · rw [zr_n (by omega), hL4, zr_n (by omega), hL3, zr_n (by omega), hL2, zr_n (by omega)]
    · rw [hR4, hR3, hR2]
      unfold up2 zrR
      dsimp only
      (repeat' split) <;> first | rfl | omega
    · rw [hK4, hK3, hK2]
      unfold up1
      (repeat' split) <;> first | rfl | omega
  rcases he with ⟨e1, e2⟩ | ⟨e1, e2⟩
  · subst e1; subst e2
    refine Runs.blk (c := xk_312) (n := 4) (M' := (W4, L4, R4, K4, n + 1 + 1 + 1 + 1, c + 1 + 1 + 1, s + 0 + 0 + 0)) (pc' := 44) rfl rfl (xal2 ⟨n0, (by decide)⟩) ?_
    refine Runs.blk (c := xk_312) (n := 2) rfl rfl trivial ?_
    exact tail
  · have el : ((l : Int) = 0) = False := eq_false (by omega)
    have ew : wr ((l : Int) - 1) = ((l - 1 : Nat) : Int) := by rw [wr_id (by omega) (by omega)]; omega
    refine Runs.blk (c := xk_312) (n := 3) rfl rfl (xal2 ⟨n0, (by decide)⟩) ?_
    refine Runs.step (e := (41, .ifCond .ne 7, 3, 48, 0, 0, 0)) (pc' := 48) (g := []) rfl (by show nx (if (l : Int) = 0 then 44 else 48) _ _ _ _ = _; rw [if_neg (by omega)]; rfl) trivial ?_
    refine Runs.blk (c := xk_312) (n := 4) rfl rfl (xal1 (by decide)) ?_
    show Runs xPP d 312 53 [vr n, vi (l : Int), vr 249, vr 250, vr 251, vr 252] [vi (wr ((l : Int) - 1)), vr 251, vr 252, vr n] (W4, L4, R4, K4, n + 1 + 1 + 1 + 1, c + 1 + 1 + 1, s + l + l + l) Q
    rw [ew]
    refine Runs.blk (c := xk_312) (n := 1) rfl rfl (xal2 ⟨by show 20 ≤ (K4 251).1 ∧ (K4 251).1 ≤ 21; rw [q4 251 (by omega), h3]; exact ⟨by decide, by decide⟩, by show (0 : Int) ≤ ((l - 1 : Nat) : Int) ∧ ((l - 1 : Nat) : Int) < (((K4 251).2 : Nat) : Int); rw [q4 251 (by omega), h3]; show (0 : Int) ≤ ((l - 1 : Nat) : Int) ∧ ((l - 1 : Nat) : Int) < ((12 : Nat) : Int); clear ew; omega⟩) ?_
    show Runs xPP d 312 54 [vr n, vi (l : Int), vr 249, vr 250, vr 251, vr 252] [vi (W4 251 (l - 1)), vr 252, vr n] (W4, L4, R4, K4, n + 1 + 1 + 1 + 1, c + 1 + 1 + 1, s + l + l + l) Q
    rw [w4 251 (by omega), e2]
    exact tail
/-- the kinds with a new law's -/
def madK (kd : Nat → Nat × Nat) (n l e : Nat) : Nat → Nat × Nat := fun a => if a = n then (3, 0) else if a = n + 4 then (20, e) else if n < a ∧ a < n + 4 then (20, l) else kd a
theorem law_made {d n l e : Nat} {V : xF} {D : yD} {Q : xRes → xF → yD → Prop} (hN : D.2.2.2.1 = n) (hn : 421 ≤ n) (h12 : l ≤ 12) (h800 : e ≤ 800) (hl : V 248 5 = (l : Int)) (he : l = 0 ∧ e = 0 ∨ 1 ≤ l ∧ V 251 (l - 1) = (e : Int))
    (h : ∀ V' D', (∀ a, a < n ∨ n + 5 ≤ a → V' a = V a) → V' n 0 = (l : Int) → (∀ j, j < l → V' (n + 1) j = V 249 j) → (∀ j, j < l → V' (n + 2) j = V 250 j) → (∀ j, j < l → V' (n + 3) j = V 251 j) → (∀ j, j < e → V' (n + 4) j = V 252 j) →
      (∀ a, a < n → D'.1 a = D.1 a) → D'.2.1 = D.2.1 → D'.2.2.1 = madK D.2.2.1 n l e → D'.2.2.2 = (n + 5, D.2.2.2.2.1 + 1 + 4, D.2.2.2.2.2 + 5 + l + l + l + e) → Q (.inl (some (vr n))) V' D') :
    RY d 234 0 [vr 248] [] V D Q := by
  have n0 : n ≠ 0 := by omega
  obtain ⟨Lg, lw, kd, n', c, s⟩ := D
  have hN : n' = n := hN
  subst hN
  show Runs xPP d 234 0 [vr 248] [] (V, Lg, yR lw kd, yK kd, n', c, s) (yQ Q)
  have r1 : ∀ j, zrR (yR lw kd) n' 248 j = yR lw kd 248 j := fun j => by rw [zrR_n (by omega)]
  have z1 : ∀ j, zr V n' 248 j = V 248 j := fun j => by rw [zr_n (by omega)]
  have k1 : ∀ a, a < 421 → up1 (yK kd) n' (3, 0) a = yK kd a := fun a ha => up1_n (by omega)
  have k4 : (up1 (yK kd) n' (3, 0) 248).1 = 4 := by rw [k1 248 (by decide)]; rfl
  refine Runs.blk (c := xk_234) (n := 12) rfl rfl (xal14 ⟨(by decide), k4, (by decide), k4, by show zrR (yR lw kd) n' 248 1 ≠ 0; rw [r1]; exact (by decide : (249 : Nat) ≠ 0), (by decide), k4, by show zrR (yR lw kd) n' 248 2 ≠ 0; rw [r1]; exact (by decide : (250 : Nat) ≠ 0), (by decide), k4, by show zrR (yR lw kd) n' 248 3 ≠ 0; rw [r1]; exact (by decide : (251 : Nat) ≠ 0), (by decide), k4, by show zrR (yR lw kd) n' 248 4 ≠ 0; rw [r1]; exact (by decide : (252 : Nat) ≠ 0)⟩) ?_
  show Runs xPP d 234 24 [vr 248] [vr (zrR (yR lw kd) n' 248 4), vr (zrR (yR lw kd) n' 248 3), vr (zrR (yR lw kd) n' 248 2), vr (zrR (yR lw kd) n' 248 1), vi (zr V n' 248 5), vr n', vr n'] (zr V n', zr Lg n', zrR (yR lw kd) n', up1 (yK kd) n' (3, 0), n' + 1, c + 1, s + 5) (yQ Q)
  rw [r1, r1, r1, r1, z1, hl]
  show Runs xPP d 234 24 [vr 248] [vr 252, vr 251, vr 250, vr 249, vi (l : Int), vr n', vr n'] (zr V n', zr Lg n', zrR (yR lw kd) n', up1 (yK kd) n' (3, 0), n' + 1, c + 1, s + 5) (yQ Q)
  refine Runs.callD (c := xk_234) (d' := d) rfl rfl (xal3 ⟨rfl, rfl, by show (up1 (yK kd) n' (3, 0) n').1 = 3; rw [up1_at]⟩) rfl ?_
  show Runs xPP d 312 0 [vr n', vi (l : Int), vr 249, vr 250, vr 251, vr 252] [] (zr V n', zr Lg n', zrR (yR lw kd) n', up1 (yK kd) n' (3, 0), n' + 1, c + 1, s + 5) (xback xPP d 234 27 [vr 248] [vr n'] (yQ Q))
  refine law_init (l := l) (e := e) (by rw [up1_at]) (by rw [k1 249 (by decide)]; rfl) (by rw [k1 250 (by decide)]; rfl) (by rw [k1 251 (by decide)]; rfl) (by rw [k1 252 (by decide)]; rfl) hn h12 h800 (by rw [zr_n (by omega)]; exact he) ?_
  rintro W' Lg' R' K' ⟨a1, a2, a3, a4, a5, a6, a7, a8, a9⟩
  show Runs xPP d 234 27 [vr 248] [vr n'] (W', Lg', R', K', n' + 5, c + 1 + 4, s + 5 + l + l + l + e) (yQ Q)
  refine Runs.stop (c := xk_234) rfl rfl (xal1 n0) ?_
  refine ⟨W', (Lg', lw, madK kd n' l e, n' + 5, c + 1 + 4, s + 5 + l + l + l + e), ?_, ?_⟩
  · have eR : R' = yR lw (madK kd n' l e) := by
      funext a j
      rw [a8]
      by_cases g : a < 421
      · rw [if_neg (by omega), if_neg (by omega), zrR_n (by omega)]
        exact yR_lt g
      · rw [yR_ge (by omega)]
        unfold madK
        by_cases g1 : a = n'
        · subst g1
          rw [if_pos rfl, zrR_at]
          (repeat' split) <;> first | rfl | omega
        · rw [if_neg (by omega), if_neg g1]
          by_cases g2 : n' < a ∧ a < n' + 5
          · rw [if_pos g2, if_neg]
            rintro ⟨g3, _⟩
            by_cases g4 : a = n' + 4
            · rw [if_pos g4] at g3
              exact absurd (show (20 : Nat) = 3 from g3) (by decide)
            · rw [if_neg g4, if_pos (by omega)] at g3
              exact absurd (show (20 : Nat) = 3 from g3) (by decide)
          · rw [if_neg g2, zrR_n g1, yR_ge (by omega), if_neg (show ¬ a = n' + 4 by omega), if_neg (show ¬ (n' < a ∧ a < n' + 4) by omega)]
    have eK : K' = yK (madK kd n' l e) := by
      funext a
      rw [a9]
      by_cases g : a < 421
      · rw [if_neg (by omega), if_neg (by omega), k1 a g]
        refine yK_same g ?_
        unfold madK
        rw [if_neg (by omega), if_neg (by omega), if_neg (by omega)]
      · rw [yK_ge (by omega)]
        unfold madK
        by_cases g1 : a = n'
        · subst g1
          rw [if_neg (by omega), if_neg (by omega), if_pos rfl, up1_at]
        · rw [if_neg g1]
          by_cases g2 : a = n' + 4
          · rw [if_pos g2, if_pos g2]
          · rw [if_neg g2, if_neg g2]
            by_cases g3 : n' < a ∧ a < n' + 4
            · rw [if_pos g3, if_pos g3]
            · rw [if_neg g3, if_neg g3, up1_n g1, yK_ge (by omega)]
    rw [eR, eK]
    rfl
  · have zz : ∀ a, a < n' → zr V n' a = V a := fun a ha => zr_n (by omega)
    refine h _ _ (fun a ha => ?_) a2 (fun j hj => ?_) (fun j hj => ?_) (fun j hj => ?_) (fun j hj => ?_) (fun a ha => ?_) rfl rfl rfl
    · rw [a1 a ha, zr_n (by omega)]
    · rw [a3 j hj, zz 249 (by omega)]
    · rw [a4 j hj, zz 250 (by omega)]
    · rw [a5 j hj, zz 251 (by omega)]
    · rw [a6 j hj, zz 252 (by omega)]
    · show Lg' a = Lg a
      rw [a7 a ha, zr_n (by omega)]
