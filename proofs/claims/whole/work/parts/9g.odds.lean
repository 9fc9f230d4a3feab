/-! ===== ODDS: WHAT EACH SIDE RECKONS ===== -/
def pwO (l : Int) : Nat → Int
  | 0 => 1
  | j + 1 => wl (pwO l j * l)
def wyO (n : Nat) : Nat → Int
  | 0 => 1
  | j + 1 => wl ((wl (wyO n j * wr ((n : Int) - (j : Int)))).tdiv (wr ((j : Int) + 1)))
def wnO (s : Int) (n : Nat) (k : Int) : Nat → Int
  | 0 => 0
  | j + 1 => if k ≤ (j : Int) then wl (wnO s n k j + wl (wl (wyO n j * pwO s j) * pwO (wr (100 - s)) (n - j))) else wnO s n k j
def mxO (x : Int) : Int := if xcmp 1 x < 0 then x else 1
/-- the class's -/
def odC (s : Int) (n : Nat) (k : Int) : Int := wr (wl ((wl (10000 * wnO s n k (n + 1))).tdiv (mxO (pwO 100 n))))
def prO (s : Int) (i : Nat) (k : Int) : Nat → Int
  | 0 => if k ≤ pcT (i : Int) 31 then 1 else 0
  | j + 1 => wl (prO s i k j * (if xand (xshr (i : Int) (j : Int)) 1 = 1 then s else wr (100 - s)))
def smO (s : Int) (n : Nat) (k : Int) : Nat → Int
  | 0 => 0
  | i + 1 => wl (smO s n k i + prO s i k n)
/-- the model's -/
def odM (s : Int) (n : Nat) (k : Int) : Int := wr (wl ((wl (10000 * smO s n k (2 ^ n))).tdiv (pwO 100 n)))
section ODDS
variable {d : Nat} {V : xF} {D : yD} {Q : xRes → xF → yD → Prop} {p : Rw}
theorem pwO_100 {n : Nat} (hn : n ≤ 6) : 1 ≤ pwO 100 n := by
  have hall : ∀ n : Fin 7, 1 ≤ pwO 100 n.1 := by decide +kernel
  exact hall ⟨n, by omega⟩
theorem c_power {l : Int} {n : Nat} (hn : n ≤ 6) (h : Q (.inl (some (vl (pwO l n)))) V D) : RY d 341 0 [vl l, vr 0, vi (n : Int), vr 0, vr 0, vr 0] [] V D Q := by
  refine u_341_0 ?_
  have go : ∀ (m k : Nat), m + k = n → RY d 341 5 [vl l, vr 0, vi (n : Int), vl (pwO l k), vr 0, vi (k : Int)] [] V D Q := by
    intro m
    induction m with
    | zero =>
      intro k hk
      have hk : k = n := by omega
      subst hk
      exact u_341_5 ⟨fun _ => h, fun hlt => absurd hlt (Int.lt_irrefl _)⟩
    | succ m ih =>
      intro k hk
      have e1 : wr ((k : Int) + 1) = ((k + 1 : Nat) : Int) := by rw [wr_id (by omega) (by omega)]; omega
      refine u_341_5 ⟨fun hle => by clear e1; omega, fun _ => ?_⟩
      rw [e1]
      clear e1
      exact ih (k + 1) (by omega)
  exact go n 0 rfl
theorem c_oddsOf {s k : Int} {n : Nat} (hn : n ≤ 6) (h : Q (.inl (some (vi (odC s n k)))) V D) : RY d 285 0 [vi s, vi (n : Int), vi k, vr 0, vr 0, vr 0, vr 0, vr 0, vr 0] [] V D Q := by
  refine u_285_0 ?_
  have go : ∀ (m j : Nat), m + j = n + 1 → RY d 285 8 [vi s, vi (n : Int), vi k, vl (wyO n j), vr 0, vl (wnO s n k j), vr 0, vi (j : Int), vr 0] [] V D Q := by
    intro m
    induction m with
    | zero =>
      intro j hj
      have hj : j = n + 1 := by omega
      subst hj
      refine u_285_8 ⟨fun _ => c_power hn ?_, fun hle => by omega⟩
      show RY d 285 75 _ _ V D Q
      refine u_285_75 ?_
      have e : yr_342 1 (pwO 100 n) V D = mxO (pwO 100 n) := rfl
      rw [e]
      have := pwO_100 hn
      refine ⟨by unfold mxO; split <;> omega, h⟩
    | succ m ih =>
      intro j hj
      have e1 : wr ((j : Int) + 1) = ((j + 1 : Nat) : Int) := by rw [wr_id (by omega) (by omega)]; omega
      have e2 : wr ((n : Int) - (j : Int)) = ((n - j : Nat) : Int) := by clear e1; rw [wr_id (by omega) (by omega)]; omega
      have nxt := ih (j + 1) (by clear e1 e2; omega)
      have hw : wyO n (j + 1) = wl ((wl (wyO n j * wr ((n : Int) - (j : Int)))).tdiv (wr ((j : Int) + 1))) := rfl
      have hs : wnO s n k (j + 1) = if k ≤ (j : Int) then wl (wnO s n k j + wl (wl (wyO n j * pwO s j) * pwO (wr (100 - s)) (n - j))) else wnO s n k j := rfl
      rw [hw, hs] at nxt
      refine u_285_8 ⟨fun hlt => by clear e1 e2; omega, fun _ => ⟨fun hlt => ⟨by rw [e1]; clear e1 e2; omega, ?_⟩, fun hle => c_power (by clear e1 e2; omega) ?_⟩⟩
      · rw [if_neg (by clear e1 e2; omega)] at nxt
        rw [← e1] at nxt
        exact nxt
      · rw [if_pos hle] at nxt
        show RY d 285 30 _ _ V D Q
        refine u_285_30 ?_
        rw [e2]
        refine c_power (by clear e1 e2; omega) ?_
        show RY d 285 43 _ _ V D Q
        refine u_285_43 ⟨by rw [e1]; clear e1 e2; omega, ?_⟩
        rw [← e1] at nxt
        exact nxt
  exact go (n + 1) 0 rfl
end ODDS
/-! ===== the model's, and that both are one ===== -/
section ODDS2
variable {d : Nat} {V : xF} {D : yD} {Q : xRes → xF → yD → Prop} {p : Rw}
theorem m_bits64 {i : Nat} (hx : i < 64) (h : Q (.inl (some (vi (pcT (i : Int) 31)))) V D) : RY d 160 0 [vi (i : Int), vr 0, vr 0] [] V D Q := by
  have hall : ∀ x : Fin 64, ∀ n : Fin 32, 0 ≤ pcT (x.1 : Int) n.1 ∧ pcT (x.1 : Int) n.1 ≤ 31 := by decide +kernel
  refine u_160_0 ?_
  have go : ∀ (n k : Nat), n + k = 31 → RY d 160 4 [vi (i : Int), vi (pcT (i : Int) k), vi (k : Int)] [] V D Q := by
    intro n
    induction n with
    | zero =>
      intro k hk
      have hk : k = 31 := by omega
      subst hk
      exact u_160_4 ⟨fun _ => h, fun hlt => absurd hlt (by decide)⟩
    | succ n ih =>
      intro k hk
      have b1 := hall ⟨i, hx⟩ ⟨k + 1, by omega⟩
      dsimp only at b1
      have e1 : wr ((k : Int) + 1) = ((k + 1 : Nat) : Int) := by rw [wr_id (by omega) (by omega)]; omega
      have e2 : wr (pcT (i : Int) k + xand (xshr (i : Int) (k : Int)) 1) = pcT (i : Int) (k + 1) := by
        have e : pcT (i : Int) (k + 1) = pcT (i : Int) k + xand (xshr (i : Int) (k : Int)) 1 := rfl
        rw [← e]
        exact wr_id (by clear e1; omega) (by clear e1; omega)
      refine u_160_4 ⟨fun hle => ?_, fun _ => ?_⟩
      · clear e1 e2; omega
      · rw [e1, e2]
        clear e1 e2
        exact ih (k + 1) (by omega)
  exact go 31 0 (by omega)
theorem m_odds {n : Nat} {k : Int} (hn : n ≤ 6) (h : Q (.inl (some (vi (odM (V 406 11) n k)))) V D) : RY d 78 46 [vr 405, vi (n : Int), vi k, vl 0, vr 0, vl 1, vr 0, vi 0, vr 0, vr 0, vr 0] [] V D Q := by
  have h2 : xshl 1 (n : Int) = ((2 ^ n : Nat) : Int) ∧ 2 ^ n ≤ 64 := by
    have hall : ∀ n : Fin 7, xshl 1 (n.1 : Int) = ((2 ^ n.1 : Nat) : Int) ∧ 2 ^ n.1 ≤ 64 := by decide +kernel
    exact hall ⟨n, by omega⟩
  have p1 := pwO_100 hn
  -- the sets
  have sets : ∀ (m i : Nat) (v8 v10 : xV), m + i = 2 ^ n → RY d 78 69 [vr 405, vi (n : Int), vi k, vl (smO (V 406 11) n k i), vr 0, vl (pwO 100 n), vr 0, vi (i : Int), v8, vr 0, v10] [] V D Q := by
    intro m
    induction m with
    | zero =>
      intro i v8 v10 hi
      have hi : i = 2 ^ n := by omega
      subst hi
      exact u_78_69 ⟨fun _ => ⟨by omega, h⟩, fun hlt => by rw [h2.1] at hlt; exact absurd hlt (Int.lt_irrefl _)⟩
    | succ m ih =>
      intro i v8 v10 hi
      have hi64 : i < 64 := by omega
      have ei : wr ((i : Int) + 1) = ((i + 1 : Nat) : Int) := by rw [wr_id (by omega) (by omega)]; omega
      refine u_78_69 ⟨fun hle => by rw [h2.1] at hle; clear ei; omega, fun _ => m_bits64 hi64 ?_⟩
      show RY d 78 82 _ _ V D Q
      have prods : ∀ (q j : Nat), q + j = n → RY d 78 96 [vr 405, vi (n : Int), vi k, vl (smO (V 406 11) n k i), vr 0, vl (pwO 100 n), vr 0, vi (i : Int), vl (prO (V 406 11) i k j), vr 0, vi (j : Int)] [] V D Q := by
        intro q
        induction q with
        | zero =>
          intro j hj
          have hj : j = n := by omega
          subst hj
          refine u_78_96 ⟨fun _ => ?_, fun hlt => absurd hlt (Int.lt_irrefl _)⟩
          rw [ei]
          clear ei
          exact ih (i + 1) _ _ (by omega)
        | succ q ihq =>
          intro j hj
          have ej : wr ((j : Int) + 1) = ((j + 1 : Nat) : Int) := by clear ei; rw [wr_id (by omega) (by omega)]; omega
          have nxt := ihq (j + 1) (by clear ei ej; omega)
          rw [show prO (V 406 11) i k (j + 1) = wl (prO (V 406 11) i k j * (if xand (xshr (i : Int) (j : Int)) 1 = 1 then V 406 11 else wr (100 - V 406 11))) from rfl] at nxt
          refine u_78_96 ⟨fun hle => by clear ei ej; omega, fun _ => ?_⟩
          unfold yr_198
          rw [ej]
          clear ei ej
          by_cases hb : xand (xshr (i : Int) (j : Int)) 1 = 1
          · rw [if_pos hb] at nxt ⊢
            exact ⟨fun g => absurd g (by decide), fun _ => nxt⟩
          · rw [if_neg hb] at nxt ⊢
            exact ⟨fun _ => nxt, fun g => absurd rfl g⟩
      have start := prods n 0 rfl
      refine u_78_82 ⟨fun hle => ?_, fun hlt => ?_⟩
      · rw [show prO (V 406 11) i k 0 = 1 from if_pos hle] at start
        exact start
      · rw [show prO (V 406 11) i k 0 = 0 from if_neg (Int.not_le.mpr hlt)] at start
        exact start
  have pow : ∀ (m j : Nat), m + j = n → RY d 78 46 [vr 405, vi (n : Int), vi k, vl 0, vr 0, vl (pwO 100 j), vr 0, vi (j : Int), vr 0, vr 0, vr 0] [] V D Q := by
    intro m
    induction m with
    | zero =>
      intro j hj
      have hj : j = n := by omega
      subst hj
      exact u_78_46 ⟨fun _ => sets (2 ^ j) 0 _ _ (by omega), fun hlt => absurd hlt (Int.lt_irrefl _)⟩
    | succ m ih =>
      intro j hj
      have ej : wr ((j : Int) + 1) = ((j + 1 : Nat) : Int) := by rw [wr_id (by omega) (by omega)]; omega
      refine u_78_46 ⟨fun hle => by clear ej; omega, fun _ => ?_⟩
      rw [ej]
      clear ej
      exact ih (j + 1) (by omega)
  exact pow n 0 rfl
end ODDS2
