/-! ===== ODDS: BOTH ARE ONE ===== -/
theorem od_3 : ∀ s : Fin 101, ∀ k : Fin 7, odC (s.1 : Int) 3 (k.1 : Int) = odM (s.1 : Int) 3 (k.1 : Int) := by decide +kernel
