/-! ===== ODDS OF SIX DAYS ===== -/
theorem od_6_0 : ∀ s : Fin 13, ∀ k : Fin 7, odC ((s.1 + 0 : Nat) : Int) 6 (k.1 : Int) = odM ((s.1 + 0 : Nat) : Int) 6 (k.1 : Int) := by decide +kernel
theorem od_6_13 : ∀ s : Fin 13, ∀ k : Fin 7, odC ((s.1 + 13 : Nat) : Int) 6 (k.1 : Int) = odM ((s.1 + 13 : Nat) : Int) 6 (k.1 : Int) := by decide +kernel
theorem od_6_26 : ∀ s : Fin 13, ∀ k : Fin 7, odC ((s.1 + 26 : Nat) : Int) 6 (k.1 : Int) = odM ((s.1 + 26 : Nat) : Int) 6 (k.1 : Int) := by decide +kernel
theorem od_6_39 : ∀ s : Fin 13, ∀ k : Fin 7, odC ((s.1 + 39 : Nat) : Int) 6 (k.1 : Int) = odM ((s.1 + 39 : Nat) : Int) 6 (k.1 : Int) := by decide +kernel
theorem od_6_52 : ∀ s : Fin 13, ∀ k : Fin 7, odC ((s.1 + 52 : Nat) : Int) 6 (k.1 : Int) = odM ((s.1 + 52 : Nat) : Int) 6 (k.1 : Int) := by decide +kernel
theorem od_6_65 : ∀ s : Fin 13, ∀ k : Fin 7, odC ((s.1 + 65 : Nat) : Int) 6 (k.1 : Int) = odM ((s.1 + 65 : Nat) : Int) 6 (k.1 : Int) := by decide +kernel
theorem od_6_78 : ∀ s : Fin 13, ∀ k : Fin 7, odC ((s.1 + 78 : Nat) : Int) 6 (k.1 : Int) = odM ((s.1 + 78 : Nat) : Int) 6 (k.1 : Int) := by decide +kernel
theorem od_6_91 : ∀ s : Fin 10, ∀ k : Fin 7, odC ((s.1 + 91 : Nat) : Int) 6 (k.1 : Int) = odM ((s.1 + 91 : Nat) : Int) 6 (k.1 : Int) := by decide +kernel
theorem od_6 {s k : Nat} (hs : s < 101) (hk : k < 7) : odC (s : Int) 6 (k : Int) = odM (s : Int) 6 (k : Int) := by
  by_cases h0 : s < 13
  · have := od_6_0 ⟨s - 0, by omega⟩ ⟨k, hk⟩
    dsimp only at this
    rwa [show s - 0 + 0 = s by omega] at this
  by_cases h13 : s < 26
  · have := od_6_13 ⟨s - 13, by omega⟩ ⟨k, hk⟩
    dsimp only at this
    rwa [show s - 13 + 13 = s by omega] at this
  by_cases h26 : s < 39
  · have := od_6_26 ⟨s - 26, by omega⟩ ⟨k, hk⟩
    dsimp only at this
    rwa [show s - 26 + 26 = s by omega] at this
  by_cases h39 : s < 52
  · have := od_6_39 ⟨s - 39, by omega⟩ ⟨k, hk⟩
    dsimp only at this
    rwa [show s - 39 + 39 = s by omega] at this
  by_cases h52 : s < 65
  · have := od_6_52 ⟨s - 52, by omega⟩ ⟨k, hk⟩
    dsimp only at this
    rwa [show s - 52 + 52 = s by omega] at this
  by_cases h65 : s < 78
  · have := od_6_65 ⟨s - 65, by omega⟩ ⟨k, hk⟩
    dsimp only at this
    rwa [show s - 65 + 65 = s by omega] at this
  by_cases h78 : s < 91
  · have := od_6_78 ⟨s - 78, by omega⟩ ⟨k, hk⟩
    dsimp only at this
    rwa [show s - 78 + 78 = s by omega] at this
  by_cases h91 : s < 101
  · have := od_6_91 ⟨s - 91, by omega⟩ ⟨k, hk⟩
    dsimp only at this
    rwa [show s - 91 + 91 = s by omega] at this
  omega
theorem od_eq {s k : Int} {n : Nat} (hs : 0 ≤ s ∧ s ≤ 100) (hk : 0 ≤ k ∧ k ≤ 6) (hn : n ≤ 6) : odC s n k = odM s n k := by
  obtain ⟨s, rfl⟩ : ∃ m : Nat, s = (m : Int) := ⟨s.toNat, by omega⟩
  obtain ⟨k, rfl⟩ : ∃ m : Nat, k = (m : Int) := ⟨k.toNat, by omega⟩
  have : n = 0 ∨ n = 1 ∨ n = 2 ∨ n = 3 ∨ n = 4 ∨ n = 5 ∨ n = 6 := by omega
  rcases this with rfl | rfl | rfl | rfl | rfl | rfl | rfl
  · exact od_0 ⟨s, by omega⟩ ⟨k, by omega⟩
  · exact od_1 ⟨s, by omega⟩ ⟨k, by omega⟩
  · exact od_2 ⟨s, by omega⟩ ⟨k, by omega⟩
  · exact od_3 ⟨s, by omega⟩ ⟨k, by omega⟩
  · exact od_4 ⟨s, by omega⟩ ⟨k, by omega⟩
  · exact od_5 ⟨s, by omega⟩ ⟨k, by omega⟩
  · exact od_6 (by omega) (by omega)
