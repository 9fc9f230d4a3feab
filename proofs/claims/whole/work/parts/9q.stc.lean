/-! ===== CELLS OF A STATE, ONE BY ONE ===== -/
section STC
variable {V : xF} {p : Rw}
theorem st_many {s : Nat} {z : Int} (hS : St V s p) : St (up2 V s 0 z) s (rup p 3 z) := by
  obtain ⟨g0, g1, g2, g3, g4, g5, g6, g7, g8, g9, g10, g12, g13, g14, g15, g16, g17, g18, g19, g20, g21, g22⟩ := hS
  have u : ∀ k, k ≠ 0 → up2 V s 0 z (s + k) = V (s + k) := fun k hk => up2_na (by omega)
  have u0 : ∀ k, k ≠ 0 → up2 V s 0 z s k = V s k := fun k h1 => by rw [up2_ni h1]
  have n : ∀ k, k ≠ 3 → rup p 3 z k = p k := fun k hk => rup_n hk
  unfold St
  rw [u 1 (by omega), u 2 (by omega), u 3 (by omega), u 4 (by omega), u 5 (by omega), u 6 (by omega), u 7 (by omega), u 8 (by omega), u 9 (by omega), u 10 (by omega), u0 6 (by omega), u0 10 (by omega), u0 12 (by omega), u0 13 (by omega), u0 14 (by omega), u0 15 (by omega), u0 16 (by omega), u0 17 (by omega), u0 18 (by omega), u0 19 (by omega), up2_at]
  unfold rW rD rS rR dB_ dO_ tP_ tW_ tL_ at *
  simp only [n 4 (by omega), n 0 (by omega), n 5 (by omega), n 6 (by omega), n 7 (by omega), n 8 (by omega), n 9 (by omega), n 10 (by omega), n 11 (by omega), n 12 (by omega), n 13 (by omega), n 14 (by omega), n 15 (by omega), rup_a]
  exact ⟨trivial, fun r hr => by rw [n _ (by omega)]; exact g1 r hr, fun r hr => by rw [n _ (by omega)]; exact g2 r hr, fun r w hr hw => by rw [n _ (by omega)]; exact g3 r w hr hw, fun r hr => by rw [n _ (by omega)]; exact g4 r hr, fun r hr => by rw [n _ (by omega), n _ (by omega), n _ (by omega), n _ (by omega), n _ (by omega)]; exact g5 r hr, g6, fun t ht => by rw [n _ (by omega)]; exact g7 t ht, fun t ht => by rw [n _ (by omega)]; exact g8 t ht, fun t ht => by rw [n _ (by omega)]; exact g9 t ht, g10, g12, g13, g14, g15, g16, g17, g18, g19, g20, g21, fun k hk => by rw [n _ (by omega)]; exact g22 k hk⟩
theorem st_people {s : Nat} {z : Int} (hS : St V s p) : St (up2 V s 6 z) s (rup p 4 z) := by
  obtain ⟨g0, g1, g2, g3, g4, g5, g6, g7, g8, g9, g10, g12, g13, g14, g15, g16, g17, g18, g19, g20, g21, g22⟩ := hS
  have u : ∀ k, k ≠ 0 → up2 V s 6 z (s + k) = V (s + k) := fun k hk => up2_na (by omega)
  have u0 : ∀ k, k ≠ 6 → up2 V s 6 z s k = V s k := fun k h1 => by rw [up2_ni h1]
  have n : ∀ k, k ≠ 4 → rup p 4 z k = p k := fun k hk => rup_n hk
  unfold St
  rw [u 1 (by omega), u 2 (by omega), u 3 (by omega), u 4 (by omega), u 5 (by omega), u 6 (by omega), u 7 (by omega), u 8 (by omega), u 9 (by omega), u 10 (by omega), u0 0 (by omega), u0 10 (by omega), u0 12 (by omega), u0 13 (by omega), u0 14 (by omega), u0 15 (by omega), u0 16 (by omega), u0 17 (by omega), u0 18 (by omega), u0 19 (by omega), up2_at]
  unfold rW rD rS rR dB_ dO_ tP_ tW_ tL_ at *
  simp only [n 3 (by omega), n 0 (by omega), n 5 (by omega), n 6 (by omega), n 7 (by omega), n 8 (by omega), n 9 (by omega), n 10 (by omega), n 11 (by omega), n 12 (by omega), n 13 (by omega), n 14 (by omega), n 15 (by omega), rup_a]
  exact ⟨g0, fun r hr => by rw [n _ (by omega)]; exact g1 r hr, fun r hr => by rw [n _ (by omega)]; exact g2 r hr, fun r w hr hw => by rw [n _ (by omega)]; exact g3 r w hr hw, fun r hr => by rw [n _ (by omega)]; exact g4 r hr, fun r hr => by rw [n _ (by omega), n _ (by omega), n _ (by omega), n _ (by omega), n _ (by omega)]; exact g5 r hr, trivial, fun t ht => by rw [n _ (by omega)]; exact g7 t ht, fun t ht => by rw [n _ (by omega)]; exact g8 t ht, fun t ht => by rw [n _ (by omega)]; exact g9 t ht, g10, g12, g13, g14, g15, g16, g17, g18, g19, g20, g21, fun k hk => by rw [n _ (by omega)]; exact g22 k hk⟩
theorem st_texts {s : Nat} {z : Int} (hS : St V s p) : St (up2 V s 10 z) s (rup p 0 z) := by
  obtain ⟨g0, g1, g2, g3, g4, g5, g6, g7, g8, g9, g10, g12, g13, g14, g15, g16, g17, g18, g19, g20, g21, g22⟩ := hS
  have u : ∀ k, k ≠ 0 → up2 V s 10 z (s + k) = V (s + k) := fun k hk => up2_na (by omega)
  have u0 : ∀ k, k ≠ 10 → up2 V s 10 z s k = V s k := fun k h1 => by rw [up2_ni h1]
  have n : ∀ k, k ≠ 0 → rup p 0 z k = p k := fun k hk => rup_n hk
  unfold St
  rw [u 1 (by omega), u 2 (by omega), u 3 (by omega), u 4 (by omega), u 5 (by omega), u 6 (by omega), u 7 (by omega), u 8 (by omega), u 9 (by omega), u 10 (by omega), u0 0 (by omega), u0 6 (by omega), u0 12 (by omega), u0 13 (by omega), u0 14 (by omega), u0 15 (by omega), u0 16 (by omega), u0 17 (by omega), u0 18 (by omega), u0 19 (by omega), up2_at]
  unfold rW rD rS rR dB_ dO_ tP_ tW_ tL_ at *
  simp only [n 3 (by omega), n 4 (by omega), n 5 (by omega), n 6 (by omega), n 7 (by omega), n 8 (by omega), n 9 (by omega), n 10 (by omega), n 11 (by omega), n 12 (by omega), n 13 (by omega), n 14 (by omega), n 15 (by omega), rup_a]
  exact ⟨g0, fun r hr => by rw [n _ (by omega)]; exact g1 r hr, fun r hr => by rw [n _ (by omega)]; exact g2 r hr, fun r w hr hw => by rw [n _ (by omega)]; exact g3 r w hr hw, fun r hr => by rw [n _ (by omega)]; exact g4 r hr, fun r hr => by rw [n _ (by omega), n _ (by omega), n _ (by omega), n _ (by omega), n _ (by omega)]; exact g5 r hr, g6, fun t ht => by rw [n _ (by omega)]; exact g7 t ht, fun t ht => by rw [n _ (by omega)]; exact g8 t ht, fun t ht => by rw [n _ (by omega)]; exact g9 t ht, trivial, g12, g13, g14, g15, g16, g17, g18, g19, g20, g21, fun k hk => by rw [n _ (by omega)]; exact g22 k hk⟩
theorem st_ear {s : Nat} {z : Int} (hS : St V s p) : St (up2 V s 14 z) s (rup p 8 z) := by
  obtain ⟨g0, g1, g2, g3, g4, g5, g6, g7, g8, g9, g10, g12, g13, g14, g15, g16, g17, g18, g19, g20, g21, g22⟩ := hS
  have u : ∀ k, k ≠ 0 → up2 V s 14 z (s + k) = V (s + k) := fun k hk => up2_na (by omega)
  have u0 : ∀ k, k ≠ 14 → up2 V s 14 z s k = V s k := fun k h1 => by rw [up2_ni h1]
  have n : ∀ k, k ≠ 8 → rup p 8 z k = p k := fun k hk => rup_n hk
  unfold St
  rw [u 1 (by omega), u 2 (by omega), u 3 (by omega), u 4 (by omega), u 5 (by omega), u 6 (by omega), u 7 (by omega), u 8 (by omega), u 9 (by omega), u 10 (by omega), u0 0 (by omega), u0 6 (by omega), u0 10 (by omega), u0 12 (by omega), u0 13 (by omega), u0 15 (by omega), u0 16 (by omega), u0 17 (by omega), u0 18 (by omega), u0 19 (by omega), up2_at]
  unfold rW rD rS rR dB_ dO_ tP_ tW_ tL_ at *
  simp only [n 3 (by omega), n 4 (by omega), n 0 (by omega), n 5 (by omega), n 6 (by omega), n 7 (by omega), n 9 (by omega), n 10 (by omega), n 11 (by omega), n 12 (by omega), n 13 (by omega), n 14 (by omega), n 15 (by omega), rup_a]
  exact ⟨g0, fun r hr => by rw [n _ (by omega)]; exact g1 r hr, fun r hr => by rw [n _ (by omega)]; exact g2 r hr, fun r w hr hw => by rw [n _ (by omega)]; exact g3 r w hr hw, fun r hr => by rw [n _ (by omega)]; exact g4 r hr, fun r hr => by rw [n _ (by omega), n _ (by omega), n _ (by omega), n _ (by omega), n _ (by omega)]; exact g5 r hr, g6, fun t ht => by rw [n _ (by omega)]; exact g7 t ht, fun t ht => by rw [n _ (by omega)]; exact g8 t ht, fun t ht => by rw [n _ (by omega)]; exact g9 t ht, g10, g12, g13, trivial, g15, g16, g17, g18, g19, g20, g21, fun k hk => by rw [n _ (by omega)]; exact g22 k hk⟩
theorem st_deaf {s : Nat} {z : Int} (hS : St V s p) : St (up2 V s 15 z) s (rup p 9 z) := by
  obtain ⟨g0, g1, g2, g3, g4, g5, g6, g7, g8, g9, g10, g12, g13, g14, g15, g16, g17, g18, g19, g20, g21, g22⟩ := hS
  have u : ∀ k, k ≠ 0 → up2 V s 15 z (s + k) = V (s + k) := fun k hk => up2_na (by omega)
  have u0 : ∀ k, k ≠ 15 → up2 V s 15 z s k = V s k := fun k h1 => by rw [up2_ni h1]
  have n : ∀ k, k ≠ 9 → rup p 9 z k = p k := fun k hk => rup_n hk
  unfold St
  rw [u 1 (by omega), u 2 (by omega), u 3 (by omega), u 4 (by omega), u 5 (by omega), u 6 (by omega), u 7 (by omega), u 8 (by omega), u 9 (by omega), u 10 (by omega), u0 0 (by omega), u0 6 (by omega), u0 10 (by omega), u0 12 (by omega), u0 13 (by omega), u0 14 (by omega), u0 16 (by omega), u0 17 (by omega), u0 18 (by omega), u0 19 (by omega), up2_at]
  unfold rW rD rS rR dB_ dO_ tP_ tW_ tL_ at *
  simp only [n 3 (by omega), n 4 (by omega), n 0 (by omega), n 5 (by omega), n 6 (by omega), n 7 (by omega), n 8 (by omega), n 10 (by omega), n 11 (by omega), n 12 (by omega), n 13 (by omega), n 14 (by omega), n 15 (by omega), rup_a]
  exact ⟨g0, fun r hr => by rw [n _ (by omega)]; exact g1 r hr, fun r hr => by rw [n _ (by omega)]; exact g2 r hr, fun r w hr hw => by rw [n _ (by omega)]; exact g3 r w hr hw, fun r hr => by rw [n _ (by omega)]; exact g4 r hr, fun r hr => by rw [n _ (by omega), n _ (by omega), n _ (by omega), n _ (by omega), n _ (by omega)]; exact g5 r hr, g6, fun t ht => by rw [n _ (by omega)]; exact g7 t ht, fun t ht => by rw [n _ (by omega)]; exact g8 t ht, fun t ht => by rw [n _ (by omega)]; exact g9 t ht, g10, g12, g13, g14, trivial, g16, g17, g18, g19, g20, g21, fun k hk => by rw [n _ (by omega)]; exact g22 k hk⟩
theorem st_bounces {s : Nat} {z : Int} (hS : St V s p) : St (up2 V s 16 z) s (rup p 10 z) := by
  obtain ⟨g0, g1, g2, g3, g4, g5, g6, g7, g8, g9, g10, g12, g13, g14, g15, g16, g17, g18, g19, g20, g21, g22⟩ := hS
  have u : ∀ k, k ≠ 0 → up2 V s 16 z (s + k) = V (s + k) := fun k hk => up2_na (by omega)
  have u0 : ∀ k, k ≠ 16 → up2 V s 16 z s k = V s k := fun k h1 => by rw [up2_ni h1]
  have n : ∀ k, k ≠ 10 → rup p 10 z k = p k := fun k hk => rup_n hk
  unfold St
  rw [u 1 (by omega), u 2 (by omega), u 3 (by omega), u 4 (by omega), u 5 (by omega), u 6 (by omega), u 7 (by omega), u 8 (by omega), u 9 (by omega), u 10 (by omega), u0 0 (by omega), u0 6 (by omega), u0 10 (by omega), u0 12 (by omega), u0 13 (by omega), u0 14 (by omega), u0 15 (by omega), u0 17 (by omega), u0 18 (by omega), u0 19 (by omega), up2_at]
  unfold rW rD rS rR dB_ dO_ tP_ tW_ tL_ at *
  simp only [n 3 (by omega), n 4 (by omega), n 0 (by omega), n 5 (by omega), n 6 (by omega), n 7 (by omega), n 8 (by omega), n 9 (by omega), n 11 (by omega), n 12 (by omega), n 13 (by omega), n 14 (by omega), n 15 (by omega), rup_a]
  exact ⟨g0, fun r hr => by rw [n _ (by omega)]; exact g1 r hr, fun r hr => by rw [n _ (by omega)]; exact g2 r hr, fun r w hr hw => by rw [n _ (by omega)]; exact g3 r w hr hw, fun r hr => by rw [n _ (by omega)]; exact g4 r hr, fun r hr => by rw [n _ (by omega), n _ (by omega), n _ (by omega), n _ (by omega), n _ (by omega)]; exact g5 r hr, g6, fun t ht => by rw [n _ (by omega)]; exact g7 t ht, fun t ht => by rw [n _ (by omega)]; exact g8 t ht, fun t ht => by rw [n _ (by omega)]; exact g9 t ht, g10, g12, g13, g14, g15, trivial, g17, g18, g19, g20, g21, fun k hk => by rw [n _ (by omega)]; exact g22 k hk⟩
theorem st_shift {s : Nat} {z : Int} (hS : St V s p) : St (up2 V s 17 z) s (rup p 11 z) := by
  obtain ⟨g0, g1, g2, g3, g4, g5, g6, g7, g8, g9, g10, g12, g13, g14, g15, g16, g17, g18, g19, g20, g21, g22⟩ := hS
  have u : ∀ k, k ≠ 0 → up2 V s 17 z (s + k) = V (s + k) := fun k hk => up2_na (by omega)
  have u0 : ∀ k, k ≠ 17 → up2 V s 17 z s k = V s k := fun k h1 => by rw [up2_ni h1]
  have n : ∀ k, k ≠ 11 → rup p 11 z k = p k := fun k hk => rup_n hk
  unfold St
  rw [u 1 (by omega), u 2 (by omega), u 3 (by omega), u 4 (by omega), u 5 (by omega), u 6 (by omega), u 7 (by omega), u 8 (by omega), u 9 (by omega), u 10 (by omega), u0 0 (by omega), u0 6 (by omega), u0 10 (by omega), u0 12 (by omega), u0 13 (by omega), u0 14 (by omega), u0 15 (by omega), u0 16 (by omega), u0 18 (by omega), u0 19 (by omega), up2_at]
  unfold rW rD rS rR dB_ dO_ tP_ tW_ tL_ at *
  simp only [n 3 (by omega), n 4 (by omega), n 0 (by omega), n 5 (by omega), n 6 (by omega), n 7 (by omega), n 8 (by omega), n 9 (by omega), n 10 (by omega), n 12 (by omega), n 13 (by omega), n 14 (by omega), n 15 (by omega), rup_a]
  exact ⟨g0, fun r hr => by rw [n _ (by omega)]; exact g1 r hr, fun r hr => by rw [n _ (by omega)]; exact g2 r hr, fun r w hr hw => by rw [n _ (by omega)]; exact g3 r w hr hw, fun r hr => by rw [n _ (by omega)]; exact g4 r hr, fun r hr => by rw [n _ (by omega), n _ (by omega), n _ (by omega), n _ (by omega), n _ (by omega)]; exact g5 r hr, g6, fun t ht => by rw [n _ (by omega)]; exact g7 t ht, fun t ht => by rw [n _ (by omega)]; exact g8 t ht, fun t ht => by rw [n _ (by omega)]; exact g9 t ht, g10, g12, g13, g14, g15, g16, trivial, g18, g19, g20, g21, fun k hk => by rw [n _ (by omega)]; exact g22 k hk⟩
theorem st_wide {s t : Nat} {z : Int} (hS : St V s p) (ht : t < 5) : St (up2 V (s + 1) t z) s (rup p (16 + 7 * t) z) := by
  obtain ⟨g0, g1, g2, g3, g4, g5, g6, g7, g8, g9, g10, g12, g13, g14, g15, g16, g17, g18, g19, g20, g21, g22⟩ := hS
  have u : ∀ k, k ≠ 1 → up2 V (s + 1) t z (s + k) = V (s + k) := fun k hk => up2_na (by omega)
  have u0 : up2 V (s + 1) t z s = V s := u 0 (by omega)
  unfold St rW rD rS rR dB_ dO_ tP_ tW_ tL_ at *
  rw [u0, u 2 (by omega), u 3 (by omega), u 4 (by omega), u 5 (by omega), u 6 (by omega), u 7 (by omega), u 8 (by omega), u 9 (by omega), u 10 (by omega)]
  simp only [show ∀ k : Nat, k < 16 → rup p (16 + 7 * t) z k = p k from fun k hk => rup_n (by omega), Nat.reduceLT]
  refine ⟨g0, fun r' h => ?_, fun r' h => ?_, fun r' w' h h' => ?_, fun r' h => ?_, fun r' h => ?_, g6, fun r' h => ?_, fun r' h => ?_, fun r' h => ?_, g10, g12, g13, g14, g15, g16, g17, g18, g19, g20, g21, fun k h => ?_⟩
  · rw [up2_a]
    by_cases e : r' = t
    · subst e; rw [if_pos rfl, rup_a]
    · rw [if_neg e, rup_n (by omega)]; exact g1 r' h
  · rw [rup_n (by omega)]; exact g2 r' h
  · rw [rup_n (by omega)]; exact g3 r' w' h h'
  · rw [rup_n (by omega)]; exact g4 r' h
  · rw [rup_n (by omega), rup_n (by omega), rup_n (by omega), rup_n (by omega), rup_n (by omega)]; exact g5 r' h
  · rw [rup_n (by omega)]; exact g7 r' h
  · rw [rup_n (by omega)]; exact g8 r' h
  · rw [rup_n (by omega)]; exact g9 r' h
  · rw [rup_n (by omega)]; exact g22 k h
theorem st_deep {s t : Nat} {z : Int} (hS : St V s p) (ht : t < 5) : St (up2 V (s + 2) t z) s (rup p (17 + 7 * t) z) := by
  obtain ⟨g0, g1, g2, g3, g4, g5, g6, g7, g8, g9, g10, g12, g13, g14, g15, g16, g17, g18, g19, g20, g21, g22⟩ := hS
  have u : ∀ k, k ≠ 2 → up2 V (s + 2) t z (s + k) = V (s + k) := fun k hk => up2_na (by omega)
  have u0 : up2 V (s + 2) t z s = V s := u 0 (by omega)
  unfold St rW rD rS rR dB_ dO_ tP_ tW_ tL_ at *
  rw [u0, u 1 (by omega), u 3 (by omega), u 4 (by omega), u 5 (by omega), u 6 (by omega), u 7 (by omega), u 8 (by omega), u 9 (by omega), u 10 (by omega)]
  simp only [show ∀ k : Nat, k < 16 → rup p (17 + 7 * t) z k = p k from fun k hk => rup_n (by omega), Nat.reduceLT]
  refine ⟨g0, fun r' h => ?_, fun r' h => ?_, fun r' w' h h' => ?_, fun r' h => ?_, fun r' h => ?_, g6, fun r' h => ?_, fun r' h => ?_, fun r' h => ?_, g10, g12, g13, g14, g15, g16, g17, g18, g19, g20, g21, fun k h => ?_⟩
  · rw [rup_n (by omega)]; exact g1 r' h
  · rw [up2_a]
    by_cases e : r' = t
    · subst e; rw [if_pos rfl, rup_a]
    · rw [if_neg e, rup_n (by omega)]; exact g2 r' h
  · rw [rup_n (by omega)]; exact g3 r' w' h h'
  · rw [rup_n (by omega)]; exact g4 r' h
  · rw [rup_n (by omega), rup_n (by omega), rup_n (by omega), rup_n (by omega), rup_n (by omega)]; exact g5 r' h
  · rw [rup_n (by omega)]; exact g7 r' h
  · rw [rup_n (by omega)]; exact g8 r' h
  · rw [rup_n (by omega)]; exact g9 r' h
  · rw [rup_n (by omega)]; exact g22 k h
theorem st_purse {s t : Nat} {z : Int} (hS : St V s p) (ht : t < 5) : St (up2 V (s + 6) t z) s (rup p (51 + 3 * t) z) := by
  obtain ⟨g0, g1, g2, g3, g4, g5, g6, g7, g8, g9, g10, g12, g13, g14, g15, g16, g17, g18, g19, g20, g21, g22⟩ := hS
  have u : ∀ k, k ≠ 6 → up2 V (s + 6) t z (s + k) = V (s + k) := fun k hk => up2_na (by omega)
  have u0 : up2 V (s + 6) t z s = V s := u 0 (by omega)
  unfold St rW rD rS rR dB_ dO_ tP_ tW_ tL_ at *
  rw [u0, u 1 (by omega), u 2 (by omega), u 3 (by omega), u 4 (by omega), u 5 (by omega), u 7 (by omega), u 8 (by omega), u 9 (by omega), u 10 (by omega)]
  simp only [show ∀ k : Nat, k < 16 → rup p (51 + 3 * t) z k = p k from fun k hk => rup_n (by omega), Nat.reduceLT]
  refine ⟨g0, fun r' h => ?_, fun r' h => ?_, fun r' w' h h' => ?_, fun r' h => ?_, fun r' h => ?_, g6, fun r' h => ?_, fun r' h => ?_, fun r' h => ?_, g10, g12, g13, g14, g15, g16, g17, g18, g19, g20, g21, fun k h => ?_⟩
  · rw [rup_n (by omega)]; exact g1 r' h
  · rw [rup_n (by omega)]; exact g2 r' h
  · rw [rup_n (by omega)]; exact g3 r' w' h h'
  · rw [rup_n (by omega)]; exact g4 r' h
  · rw [rup_n (by omega), rup_n (by omega), rup_n (by omega), rup_n (by omega), rup_n (by omega)]; exact g5 r' h
  · rw [up2_a]
    by_cases e : r' = t
    · subst e; rw [if_pos rfl, rup_a]
    · rw [if_neg e, rup_n (by omega)]; exact g7 r' h
  · rw [rup_n (by omega)]; exact g8 r' h
  · rw [rup_n (by omega)]; exact g9 r' h
  · rw [rup_n (by omega)]; exact g22 k h
theorem st_wants {s t : Nat} {z : Int} (hS : St V s p) (ht : t < 5) : St (up2 V (s + 7) t z) s (rup p (52 + 3 * t) z) := by
  obtain ⟨g0, g1, g2, g3, g4, g5, g6, g7, g8, g9, g10, g12, g13, g14, g15, g16, g17, g18, g19, g20, g21, g22⟩ := hS
  have u : ∀ k, k ≠ 7 → up2 V (s + 7) t z (s + k) = V (s + k) := fun k hk => up2_na (by omega)
  have u0 : up2 V (s + 7) t z s = V s := u 0 (by omega)
  unfold St rW rD rS rR dB_ dO_ tP_ tW_ tL_ at *
  rw [u0, u 1 (by omega), u 2 (by omega), u 3 (by omega), u 4 (by omega), u 5 (by omega), u 6 (by omega), u 8 (by omega), u 9 (by omega), u 10 (by omega)]
  simp only [show ∀ k : Nat, k < 16 → rup p (52 + 3 * t) z k = p k from fun k hk => rup_n (by omega), Nat.reduceLT]
  refine ⟨g0, fun r' h => ?_, fun r' h => ?_, fun r' w' h h' => ?_, fun r' h => ?_, fun r' h => ?_, g6, fun r' h => ?_, fun r' h => ?_, fun r' h => ?_, g10, g12, g13, g14, g15, g16, g17, g18, g19, g20, g21, fun k h => ?_⟩
  · rw [rup_n (by omega)]; exact g1 r' h
  · rw [rup_n (by omega)]; exact g2 r' h
  · rw [rup_n (by omega)]; exact g3 r' w' h h'
  · rw [rup_n (by omega)]; exact g4 r' h
  · rw [rup_n (by omega), rup_n (by omega), rup_n (by omega), rup_n (by omega), rup_n (by omega)]; exact g5 r' h
  · rw [rup_n (by omega)]; exact g7 r' h
  · rw [up2_a]
    by_cases e : r' = t
    · subst e; rw [if_pos rfl, rup_a]
    · rw [if_neg e, rup_n (by omega)]; exact g8 r' h
  · rw [rup_n (by omega)]; exact g9 r' h
  · rw [rup_n (by omega)]; exact g22 k h
end STC
/-! ===== STEPS OF THE CLASS'S READING ===== -/
theorem hd_eq : wdS 3 = wdS 47 ∧ wdS 4 = wdS 56 ∧ wdS 5 = wdS 57 ∧ wdS 7 = wdS 50 ∧ wdS 8 = wdS 46 ∧ wdS 9 = wdS 58 ∧ wdS 10 = wdS 59 ∧ wdS 11 = wdS 60 ∧ wdS 12 = wdS 61 ∧ wdS 13 = wdS 62 ∧ wdS 14 = wdS 64 ∧ wdS 15 = wdS 67 ∧ wdS 16 = wdS 65 ∧ wdS 17 = wdS 66 ∧ wdS 18 = wdS 63 ∧ wdS 19 = wdS 68 ∧ wdS 20 = wdS 69 ∧ wdS 21 = wdS 53 := by decide +kernel
theorem hd_ne : wdS 63 ≠ wdS 64 ∧ wdS 67 ≠ wdS 65 ∧ wdS 67 ≠ wdS 66 := by decide +kernel
def E76 (V V' : xF) : Prop := ∀ a, a ≠ 76 → V' a = V a
def J76 (V V' : xF) : Prop := ∀ j, j ≠ 5 → j ≠ 6 → V' 76 j = V 76 j
/-- V' is C but for where one is on the tape; C is V but for scratch -/
def Kp (V C V' : xF) : Prop := E76 C V' ∧ (∀ a, ¬ (92 ≤ a ∧ a ≤ 102) → C a = V a) ∧ J76 V V'
def HCh (V V' : xF) : Prop := (∀ a, a ≠ 76 → ¬ (92 ≤ a ∧ a ≤ 102) → V' a = V a) ∧ J76 V V'
section STEPS
variable {V C X X' : xF} {D : yD} {T : TK} {m N i d : Nat} {Q : xRes → xF → yD → Prop}
theorem Kp.rf : Kp V V V := ⟨fun _ _ => rfl, fun _ _ => rfl, fun _ _ _ => rfl⟩
theorem Kp.s76 (h : Kp V C X) (e : E76 X X') (j : J76 X X') : Kp V C X' := ⟨fun a ha => (e a ha).trans (h.1 a ha), h.2.1, fun k h5 h6 => (j k h5 h6).trans (h.2.2 k h5 h6)⟩
theorem Kp.st (h : Kp V C X) {b n : Nat} {z : Int} (hb : 92 ≤ b ∧ b ≤ 102) : Kp V (up2 C b n z) (up2 X b n z) := by
  refine ⟨fun a ha => ?_, fun a ha => by rw [up2_na (by omega)]; exact h.2.1 a ha, fun j h5 h6 => by rw [up2_na (by omega)]; exact h.2.2 j h5 h6⟩
  by_cases e : a = b
  · rw [e]
    funext j
    rw [up2_a, up2_a, h.1 b (by omega)]
  · rw [up2_na e, up2_na e]; exact h.1 a ha
theorem Kp.hc (h : Kp V C X) : HCh V X := ⟨fun a h1 h2 => (h.1 a h1).trans (h.2.1 a h2), h.2.2⟩
theorem Kp.at_ (h : Kp V C X) {a : Nat} (ha : a ≠ 76) : X a = C a := h.1 a ha
theorem Kp.stt (h : Kp V C X) {q : Rw} (hS : St C 92 q) : St X 92 q := hS.keep fun k hk => h.1 _ (by omega)
theorem HCh.tr (h : HCh V X) (h' : HCh X X') : HCh V X' := ⟨fun a h1 h2 => (h'.1 a h1 h2).trans (h.1 a h1 h2), fun j h5 h6 => (h'.2 j h5 h6).trans (h.2 j h5 h6)⟩
theorem CL.kp (h : CL X T m N i) (F : ∀ a, a < 81 → a ≠ 76 → X' a = X a) (h5 : X' 76 5 = X 76 5) : CL X' T m N i := by
  obtain ⟨a1, a2, a3, a4, a5, a6, a7, a8, a9⟩ := h
  exact ⟨by rw [h5]; exact a1, a2, a3, a4, by rw [F 78 (by decide) (by decide)]; exact a5, by rw [F 79 (by decide) (by decide)]; exact a6, by rw [F 80 (by decide) (by decide)]; exact a7, fun k hk => by rw [F 77 (by decide) (by decide)]; exact a8 k hk, fun a g1 g2 j => by rw [F a (by omega) (by omega)]; exact a9 a g1 g2 j⟩
theorem CL.st (h : CL X T m N i) {b n : Nat} {z : Int} (hb : 81 ≤ b) : CL (up2 X b n z) T m N i := h.kp (fun a ha _ => up2_na (by omega)) (by rw [up2_na (by omega)])
theorem CL.wd (h : CL X T m N i) {w : Nat} (hw1 : 3 ≤ w) (hw2 : w < 70) (h1 : i < N → kW T i (wdS w) → ∀ X', CL X' T m N (i + 1) → E76 X X' → J76 X X' → Q (.inl (some (vi 1))) X' D) (h0 : ¬ kW T i (wdS w) → Q (.inl (some (vi 0))) X D) : RY d 352 0 [vr 76, vr w] [] X D Q :=
  h.pW hw1 hw2 (fun hlt ht => h1 hlt ht _ (h.up hlt) (fun a ha => up2_na ha) (fun j h5 _ => up2_ni h5)) h0
theorem CL.nm (h : CL X T m N i) {lo hi : Int} (hlo : 0 ≤ lo) (h1 : i < N → isN T i lo hi → ∀ X', CL X' T m N (i + 1) → X' 76 6 = nv T i → E76 X X' → J76 X X' → Q (.inl (some (vi 1))) X' D) (h0 : ¬ isN T i lo hi → Q (.inl (some (vi 0))) X D) : RY d 362 0 [vr 76, vi lo, vi hi, vr 0] [] X D Q := by
  refine h.pN hlo (fun v hlt hv => ?_) (fun hno => h0 (fun ⟨v, hv⟩ => hno v hv))
  have h6 : CL (up2 X 76 6 v) T m N i := h.kp (fun a _ ha => up2_na ha) (up2_ni (by decide))
  refine h1 hlt ⟨v, hv⟩ _ (h6.up hlt) ?_ (fun a ha => by rw [up2_na ha, up2_na ha]) (fun j h5 h6 => by rw [up2_ni h5, up2_ni h6])
  rw [up2_ni (by decide), up2_at]
  exact kN_nv hv
theorem CL.nb (h : CL X T m N i) (hq : Q (.inl (some (vi (nv T i)))) X D) : RY d 370 0 [vr 76, vr 0, vr 0] [] X D Q := by
  obtain ⟨a1, a2, a3, a4, a5, a6, a7, a8, a9⟩ := id h
  have c := c_number (Q := Q) (D := D) (d := d) h.ct
  rw [a5, a6, a7] at c
  exact c hq
theorem xi2c_id {c : Int} (h : 0 ≤ c ∧ c < 65536) : xi2c c = c := by
  unfold xi2c
  obtain ⟨n, rfl⟩ : ∃ n : Nat, c = (n : Int) := ⟨c.toNat, by omega⟩
  have hn : n < 65536 := by omega
  have e1 : (Int32.ofInt (n : Int)).toUInt32 = UInt32.ofNat n := by
    apply UInt32.toBitVec_inj.mp
    show BitVec.ofInt 32 (n : Int) = BitVec.ofNat 32 n
    exact BitVec.ofInt_natCast 32 n
  rw [e1]
  have e2 : (UInt32.ofNat n % 65536).toNat = n := by
    rw [UInt32.toNat_mod, UInt32.toNat_ofNat]
    show n % 4294967296 % 65536 = n
    omega
  show ((UInt32.ofNat n % 65536).toBitVec).toInt = (n : Int)
  rw [BitVec.toInt_eq_toNat_of_lt (by show 2 * (UInt32.ofNat n % 65536).toNat < _; rw [e2]; omega)]
  show (((UInt32.ofNat n % 65536).toNat : Nat) : Int) = _
  rw [e2]
theorem ix_srt (hV : ∀ j, X 6 j = (wdS 6).getD j 0) (c : Int) : xixF X 6 c 5 0 = srt c := by
  have h0 : X 6 0 = 111 := by rw [hV]; decide +kernel
  have h1 : X 6 1 = 102 := by rw [hV]; decide +kernel
  have h2 : X 6 2 = 99 := by rw [hV]; decide +kernel
  have h3 : X 6 3 = 115 := by rw [hV]; decide +kernel
  have h4 : X 6 4 = 103 := by rw [hV]; decide +kernel
  unfold xixF xixF xixF xixF xixF xixF srt
  rw [h0, h1, h2, h3, h4]
  by_cases e0 : c = 111
  · rw [if_pos e0.symm, if_pos e0]; rfl
  rw [if_neg (fun h => e0 h.symm), if_neg e0]
  by_cases e1 : c = 102
  · rw [if_pos e1.symm, if_pos e1]; rfl
  rw [if_neg (fun h => e1 h.symm), if_neg e1]
  by_cases e2 : c = 99
  · rw [if_pos e2.symm, if_pos e2]; rfl
  rw [if_neg (fun h => e2 h.symm), if_neg e2]
  by_cases e3 : c = 115
  · rw [if_pos e3.symm, if_pos e3]; rfl
  rw [if_neg (fun h => e3 h.symm), if_neg e3]
  by_cases e4 : c = 103
  · rw [if_pos e4.symm, if_pos e4]; rfl
  rw [if_neg (fun h => e4 h.symm), if_neg e4]
/-- a wall's letter -/
theorem CL.wall (h : CL X T m N i) {n k : Nat} {v4 : xV} (hn : n < 5) (hk : k < 4) (hK : T.2.1 i = 1 ∧ T.2.2.2 i - T.2.2.1 i = 4)
    (h1 : srv T i k ≠ -1 → RY d 369 15 [vr 247, vr 92, vi (n : Int), vi ((k + 1 : Nat) : Int), vi (srv T i k)] [] (up2 X 95 (4 * n + k) (srv T i k)) D Q) (h0 : srv T i k = -1 → Q (.inl (some (vi 0))) X D) : RY d 369 15 [vr 247, vr 92, vi (n : Int), vi (k : Int), v4] [] X D Q := by
  obtain ⟨a1, a2, a3, a4, a5, a6, a7, a8, a9⟩ := id h
  have hb := a4.bnd a2
  have hN := a4.1
  have hlt := a4.lt a2 (by rw [hK.1]; decide)
  have hkd := (a4.kind hlt).2.2 k (by omega)
  have hl := kof_l.mp (hkd.trans hK.1)
  have hsb := srt_b (T.1 ((T.2.2.1 i).toNat + k))
  have es : srt (T.1 ((T.2.2.1 i).toNat + k)) = srv T i k := rfl
  have e375 : yr_375 (k : Int) X D = T.1 ((T.2.2.1 i).toNat + k) := by
    unfold yr_375
    rw [a1, nn_toNat, a6, a7, if_neg (by omega), wr_id (x := T.2.2.2 i - T.2.2.1 i) (by omega) (by omega), if_pos (by omega), wr_id (by omega) (by omega), show (T.2.2.1 i + (k : Int)).toNat = (T.2.2.1 i).toNat + k by omega, a8 _ (by omega)]
    exact xi2c_id (by omega)
  refine u_369_15_92 ⟨fun h5 => by omega, fun _ => ⟨?_, ?_⟩⟩
  · have e : xi2c (X 77 ((wr ((X 79 ((X 76 5).toNat)) + (k : Int))).toNat)) = T.1 ((T.2.2.1 i).toNat + k) := by
      rw [a1, nn_toNat, a6, wr_id (by omega) (by omega), show (T.2.2.1 i + (k : Int)).toNat = (T.2.2.1 i).toNat + k by omega, a8 _ (by omega)]
      exact xi2c_id (by omega)
    unfold yg_375
    rw [e, a1, nn_toNat, a6, a7, wr_id (x := T.2.2.2 i - T.2.2.1 i) (by omega) (by omega), wr_id (x := T.2.2.1 i + (k : Int)) (by omega) (by omega)]
    omega
  · rw [e375, ix_srt (a9 6 (by decide) (by decide)), es]
    rw [es] at hsb
    have e1 : wr ((wr ((4 : Int) * (n : Int))) + (k : Int)) = ((4 * n + k : Nat) : Int) := by rw [wr_id (x := (4 : Int) * (n : Int)) (by omega) (by omega), wr_id (by omega) (by omega)]; omega
    have e2 : wr ((k : Int) + 1) = ((k + 1 : Nat) : Int) := by clear e1; rw [wr_id (by omega) (by omega)]; omega
    rw [e1, e2]
    clear e1 e2
    refine ⟨fun h5 => ⟨by omega, ?_⟩, fun h5 => h0 (by omega)⟩
    rintro V2 rfl
    rw [nn_toNat]
    exact h1 (by omega)
end STEPS
