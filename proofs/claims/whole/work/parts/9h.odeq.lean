/-! ===== ODDS: BOTH ARE ONE ===== -/
theorem od_0 : ∀ s : Fin 101, ∀ k : Fin 7, odC (s.1 : Int) 0 (k.1 : Int) = odM (s.1 : Int) 0 (k.1 : Int) := by decide +kernel
theorem od_1 : ∀ s : Fin 101, ∀ k : Fin 7, odC (s.1 : Int) 1 (k.1 : Int) = odM (s.1 : Int) 1 (k.1 : Int) := by decide +kernel
theorem od_2 : ∀ s : Fin 101, ∀ k : Fin 7, odC (s.1 : Int) 2 (k.1 : Int) = odM (s.1 : Int) 2 (k.1 : Int) := by decide +kernel
theorem od_3 : ∀ s : Fin 101, ∀ k : Fin 7, odC (s.1 : Int) 3 (k.1 : Int) = odM (s.1 : Int) 3 (k.1 : Int) := by decide +kernel
theorem od_4 : ∀ s : Fin 101, ∀ k : Fin 7, odC (s.1 : Int) 4 (k.1 : Int) = odM (s.1 : Int) 4 (k.1 : Int) := by decide +kernel
theorem od_5 : ∀ s : Fin 101, ∀ k : Fin 7, odC (s.1 : Int) 5 (k.1 : Int) = odM (s.1 : Int) 5 (k.1 : Int) := by decide +kernel
