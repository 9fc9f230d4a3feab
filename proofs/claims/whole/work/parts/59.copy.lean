/-! ===== A STATE IS COPIED ===== -/
/-- what is known of a State's address -/
def StA (s : Nat) : Prop := s ≠ 0 ∧ (∀ kd, yK kd s = (10, 0)) ∧ (∀ lw kd, yR lw kd s 1 = s + 1) ∧ (∀ lw kd, yR lw kd s 2 = s + 2) ∧ (∀ lw kd, yR lw kd s 3 = s + 3) ∧ (∀ lw kd, yR lw kd s 4 = s + 4) ∧ (∀ lw kd, yR lw kd s 5 = s + 5) ∧ (∀ lw kd, yR lw kd s 7 = s + 6) ∧ (∀ lw kd, yR lw kd s 8 = s + 7) ∧ (∀ lw kd, yR lw kd s 9 = s + 8) ∧ (∀ lw kd, yR lw kd s 11 = lw s) ∧ (∀ lw kd, yR lw kd s 20 = s + 9) ∧
  (∀ kd, yK kd (s + 1) = (20, 5)) ∧ (∀ kd, yK kd (s + 2) = (20, 5)) ∧ (∀ kd, yK kd (s + 3) = (20, 20)) ∧ (∀ kd, yK kd (s + 4) = (20, 5)) ∧ (∀ kd, yK kd (s + 5) = (20, 5)) ∧ (∀ kd, yK kd (s + 6) = (20, 5)) ∧ (∀ kd, yK kd (s + 7) = (20, 5)) ∧ (∀ kd, yK kd (s + 8) = (20, 5)) ∧ (∀ kd, yK kd (s + 9) = (7, 0)) ∧ (∀ lw kd, yR lw kd (s + 9) 2 = s + 10) ∧ (∀ kd, yK kd (s + 10) = (20, 240)) ∧ yst s = true
theorem StA_81 : StA 81 := ⟨by decide, fun _ => rfl, fun _ _ => rfl, fun _ _ => rfl, fun _ _ => rfl, fun _ _ => rfl, fun _ _ => rfl, fun _ _ => rfl, fun _ _ => rfl, fun _ _ => rfl, fun _ _ => rfl, fun _ _ => rfl, fun _ => rfl, fun _ => rfl, fun _ => rfl, fun _ => rfl, fun _ => rfl, fun _ => rfl, fun _ => rfl, fun _ => rfl, fun _ => rfl, fun _ _ => rfl, fun _ => rfl, rfl⟩
theorem StA_92 : StA 92 := ⟨by decide, fun _ => rfl, fun _ _ => rfl, fun _ _ => rfl, fun _ _ => rfl, fun _ _ => rfl, fun _ _ => rfl, fun _ _ => rfl, fun _ _ => rfl, fun _ _ => rfl, fun _ _ => rfl, fun _ _ => rfl, fun _ => rfl, fun _ => rfl, fun _ => rfl, fun _ => rfl, fun _ => rfl, fun _ => rfl, fun _ => rfl, fun _ => rfl, fun _ => rfl, fun _ _ => rfl, fun _ => rfl, rfl⟩
theorem StA_103 : StA 103 := ⟨by decide, fun _ => rfl, fun _ _ => rfl, fun _ _ => rfl, fun _ _ => rfl, fun _ _ => rfl, fun _ _ => rfl, fun _ _ => rfl, fun _ _ => rfl, fun _ _ => rfl, fun _ _ => rfl, fun _ _ => rfl, fun _ => rfl, fun _ => rfl, fun _ => rfl, fun _ => rfl, fun _ => rfl, fun _ => rfl, fun _ => rfl, fun _ => rfl, fun _ => rfl, fun _ _ => rfl, fun _ => rfl, rfl⟩
theorem StA_past {k : Nat} (hk : k < 12) : StA (115 + 11 * k) := by
  have : k = 0 ∨ k = 1 ∨ k = 2 ∨ k = 3 ∨ k = 4 ∨ k = 5 ∨ k = 6 ∨ k = 7 ∨ k = 8 ∨ k = 9 ∨ k = 10 ∨ k = 11 := by omega
  rcases this with h | h | h | h | h | h | h | h | h | h | h | h <;> subst h <;> exact ⟨by decide, fun _ => rfl, fun _ _ => rfl, fun _ _ => rfl, fun _ _ => rfl, fun _ _ => rfl, fun _ _ => rfl, fun _ _ => rfl, fun _ _ => rfl, fun _ _ => rfl, fun _ _ => rfl, fun _ _ => rfl, fun _ => rfl, fun _ => rfl, fun _ => rfl, fun _ => rfl, fun _ => rfl, fun _ => rfl, fun _ => rfl, fun _ => rfl, fun _ => rfl, fun _ _ => rfl, fun _ => rfl, rfl⟩
/-- so much of the State at s' stands at s -/
def Cpd (s s' : Nat) (L : List (Nat × Nat × Nat)) (V V' : xF) : Prop := (∀ q ∈ L, q.1 ≤ 10 ∧ ∀ j, q.2.1 ≤ j → j < q.2.2 → V' (s + q.1) j = V (s' + q.1) j) ∧ ∀ a, (a < s ∨ s + 10 < a) → V' a = V a
theorem Cpd.rf {s s' : Nat} {V : xF} : Cpd s s' [] V V := ⟨fun _ h => (nomatch h), fun _ _ => rfl⟩
theorem Cpd.up {s s' m i : Nat} {L : List (Nat × Nat × Nat)} {V V1 V2 : xF} (hd : s + 10 < s' ∨ s' + 10 < s) (hm : m ≤ 10) (h : Cpd s s' L V V1) (e : V2 = up2 V1 (s + m) i (V1 (s' + m) i)) : Cpd s s' ((m, i, i + 1) :: L) V V2 := by
  subst e
  have e0 : V1 (s' + m) = V (s' + m) := h.2 (s' + m) (by omega)
  refine ⟨fun q hq => ?_, fun a ha => ?_⟩
  · rcases List.mem_cons.mp hq with hq | hq
    · subst hq
      refine ⟨hm, fun j h1 h2 => ?_⟩
      dsimp only at h1 h2 ⊢
      rw [show j = i by omega, up2_at, e0]
    · obtain ⟨h1, h2⟩ := h.1 q hq
      refine ⟨h1, fun j h3 h4 => ?_⟩
      have h5 := h2 j h3 h4
      unfold up2
      split
      · rename_i hc
        rw [e0, hc.2, show q.1 = m by omega]
      · exact h5
  · rw [up2_na (by omega)]
    exact h.2 a ha
theorem Cpd.up0 {s s' i : Nat} {L : List (Nat × Nat × Nat)} {V V1 V2 : xF} (hd : s + 10 < s' ∨ s' + 10 < s) (h : Cpd s s' L V V1) (e : V2 = up2 V1 s i (V1 s' i)) : Cpd s s' ((0, i, i + 1) :: L) V V2 := Cpd.up (m := 0) hd (by omega) h e
theorem Cpd.cp {s s' m n : Nat} {L : List (Nat × Nat × Nat)} {V V1 V2 : xF} (hd : s + 10 < s' ∨ s' + 10 < s) (hm : m ≤ 10) (h : Cpd s s' L V V1) (e : V2 = xcpy V1 (s' + m) 0 (s + m) 0 n) : Cpd s s' ((m, 0, n) :: L) V V2 := by
  subst e
  have e0 : V1 (s' + m) = V (s' + m) := h.2 (s' + m) (by omega)
  refine ⟨fun q hq => ?_, fun a ha => ?_⟩
  · rcases List.mem_cons.mp hq with hq | hq
    · subst hq
      refine ⟨hm, fun j h1 h2 => ?_⟩
      dsimp only at h1 h2 ⊢
      rw [xcpy_a, if_pos ⟨by omega, by omega⟩, e0, show 0 + (j - 0) = j by omega]
    · obtain ⟨h1, h2⟩ := h.1 q hq
      refine ⟨h1, fun j h3 h4 => ?_⟩
      have h5 := h2 j h3 h4
      unfold xcpy
      split
      · rename_i hc
        rw [e0, show 0 + (j - 0) = j by omega, show q.1 = m by omega]
      · exact h5
  · rw [xcpy_na (by omega)]
    exact h.2 a ha
/-- the cells that a copy copies -/
abbrev cpos : List (Nat × Nat × Nat) := [(10, 0, 240), (9, 1, 2), (9, 0, 1), (0, 19, 20), (0, 18, 19), (0, 17, 18), (0, 16, 17), (0, 15, 16), (0, 14, 15), (0, 13, 14), (0, 12, 13), (0, 10, 11), (8, 0, 5), (7, 0, 5), (6, 0, 5), (0, 6, 7), (5, 0, 5), (4, 0, 5), (3, 0, 20), (2, 0, 5), (1, 0, 5), (0, 0, 1)]
section COPY
variable {d : Nat} {V : xF} {D : yD} {Q : xRes → xF → yD → Prop}
set_option maxHeartbeats 2000000 in
theorem c_copy {s s' : Nat} (hs : StA s) (hs' : StA s') (hd : s + 10 < s' ∨ s' + 10 < s) (hl : D.2.1 s' ≠ 0)
    (h : ∀ V', Cpd s s' cpos V V' → Q (.inl none) V' (D.1, up1 D.2.1 s (D.2.1 s'), D.2.2)) : RY d 224 0 [vr s, vr s'] [] V D Q := by
  obtain ⟨a0, aK, a1, a2, a3, a4, a5, a7, a8, a9, a11, a20, k1, k2, k3, k4, k5, k6, k7, k8, k9, a92, k10, aS⟩ := hs
  obtain ⟨b0, bK, b1, b2, b3, b4, b5, b7, b8, b9, b11, b20, l1, l2, l3, l4, l5, l6, l7, l8, l9, b92, l10, -⟩ := hs'
  refine u_224_0 ?_
  have n1 : ∀ (x k : Nat), x + (k + 1) ≠ 0 := fun x k => by omega
  have nb : Nat.ble 0 8 = true := rfl
  have i5 : (0 : Int) + 5 ≤ ((5 : Nat) : Int) := by decide
  have i20 : (0 : Int) + 20 ≤ ((20 : Nat) : Int) := by decide
  have i240 : (0 : Int) + 240 ≤ ((240 : Nat) : Int) := by decide
  have z5 : (0 : Int) ≤ 5 := by decide
  have z20 : (0 : Int) ≤ 20 := by decide
  have z240 : (0 : Int) ≤ 240 := by decide
  simp only [a0, aK, a1, a2, a3, a4, a5, a7, a8, a9, a11, a20, k1, k2, k3, k4, k5, k6, k7, k8, k9, a92, k10, aS, b0, bK, b1, b2, b3, b4, b5, b7, b8, b9, b11, b20, l1, l2, l3, l4, l5, l6, l7, l8, l9, b92, l10, nb, i5, i20, i240, z5, z20, z240, hl, ne_eq, not_false_eq_true, true_and, and_true, Nat.add_eq_zero_iff, Nat.reduceEqDiff, Int.le_refl, and_self, and_false]
  intro V1 h1 V2 h2 V3 h3 V4 h4 V5 h5 V6 h6 V7 h7 V8 h8 V9 h9 V10 h10 V11 h11 D12 hD V13 h13 V14 h14 V15 h15 V16 h16 V17 h17 V18 h18 V19 h19 V20 h20 V21 h21 V22 h22 V23 h23
  subst hD
  have c1 := Cpd.up0 hd (Cpd.rf (s := s) (s' := s') (V := V)) h1
  have c2 := Cpd.cp (m := 1) hd (by omega) c1 h2
  have c3 := Cpd.cp (m := 2) hd (by omega) c2 h3
  have c4 := Cpd.cp (m := 3) hd (by omega) c3 h4
  have c5 := Cpd.cp (m := 4) hd (by omega) c4 h5
  have c6 := Cpd.cp (m := 5) hd (by omega) c5 h6
  have c7 := Cpd.up0 hd c6 h7
  have c8 := Cpd.cp (m := 6) hd (by omega) c7 h8
  have c9 := Cpd.cp (m := 7) hd (by omega) c8 h9
  have c10 := Cpd.cp (m := 8) hd (by omega) c9 h10
  have c11 := Cpd.up0 hd c10 h11
  have c13 := Cpd.up0 hd c11 h13
  have c14 := Cpd.up0 hd c13 h14
  have c15 := Cpd.up0 hd c14 h15
  have c16 := Cpd.up0 hd c15 h16
  have c17 := Cpd.up0 hd c16 h17
  have c18 := Cpd.up0 hd c17 h18
  have c19 := Cpd.up0 hd c18 h19
  have c20 := Cpd.up0 hd c19 h20
  have c21 := Cpd.up (m := 9) hd (by omega) c20 h21
  have c22 := Cpd.up (m := 9) hd (by omega) c21 h22
  have c23 := Cpd.cp (m := 10) hd (by omega) c22 h23
  exact h V23 c23
theorem Cpd.st {s s' : Nat} {V V' : xF} (h : Cpd s s' cpos V V') {p : Rw} (hS : St V s' p) : St V' s p := by
  obtain ⟨g0, g1, g2, g3, g4, g5, g6, g7, g8, g9, g10, g12, g13, g14, g15, g16, g17, g18, g19, g20, g21, g22⟩ := hS
  have e : ∀ m lo hi, (m, lo, hi) ∈ cpos → ∀ j, lo ≤ j → j < hi → V' (s + m) j = V (s' + m) j := fun m lo hi hm => (h.1 (m, lo, hi) hm).2
  refine ⟨?_, fun r hr => ?_, fun r hr => ?_, fun r w hr hw => ?_, fun r hr => ?_, fun r hr => ?_, ?_, fun t ht => ?_, fun t ht => ?_, fun t ht => ?_, ?_, ?_, ?_, ?_, ?_, ?_, ?_, ?_, ?_, ?_, ?_, fun k hk => ?_⟩
  · rw [show V' s 0 = V s' 0 from e 0 0 1 (by decide) 0 (by omega) (by omega)]; exact g0
  · rw [e 1 0 5 (by decide) r (by omega) (by omega)]; exact g1 r hr
  · rw [e 2 0 5 (by decide) r (by omega) (by omega)]; exact g2 r hr
  · rw [e 3 0 20 (by decide) (4 * r + w) (by omega) (by omega)]; exact g3 r w hr hw
  · rw [e 4 0 5 (by decide) r (by omega) (by omega)]; exact g4 r hr
  · rw [e 5 0 5 (by decide) r (by omega) (by omega)]; exact g5 r hr
  · rw [show V' s 6 = V s' 6 from e 0 6 7 (by decide) 6 (by omega) (by omega)]; exact g6
  · rw [e 6 0 5 (by decide) t (by omega) (by omega)]; exact g7 t ht
  · rw [e 7 0 5 (by decide) t (by omega) (by omega)]; exact g8 t ht
  · rw [e 8 0 5 (by decide) t (by omega) (by omega)]; exact g9 t ht
  · rw [show V' s 10 = V s' 10 from e 0 10 11 (by decide) 10 (by omega) (by omega)]; exact g10
  · rw [show V' s 12 = V s' 12 from e 0 12 13 (by decide) 12 (by omega) (by omega)]; exact g12
  · rw [show V' s 13 = V s' 13 from e 0 13 14 (by decide) 13 (by omega) (by omega)]; exact g13
  · rw [show V' s 14 = V s' 14 from e 0 14 15 (by decide) 14 (by omega) (by omega)]; exact g14
  · rw [show V' s 15 = V s' 15 from e 0 15 16 (by decide) 15 (by omega) (by omega)]; exact g15
  · rw [show V' s 16 = V s' 16 from e 0 16 17 (by decide) 16 (by omega) (by omega)]; exact g16
  · rw [show V' s 17 = V s' 17 from e 0 17 18 (by decide) 17 (by omega) (by omega)]; exact g17
  · rw [show V' s 18 = V s' 18 from e 0 18 19 (by decide) 18 (by omega) (by omega)]; exact g18
  · rw [show V' s 19 = V s' 19 from e 0 19 20 (by decide) 19 (by omega) (by omega)]; exact g19
  · rw [e 9 0 1 (by decide) 0 (by omega) (by omega)]; exact g20
  · rw [e 9 1 2 (by decide) 1 (by omega) (by omega)]; exact g21
  · rw [e 10 0 240 (by decide) k (by omega) (by omega)]; exact g22 k hk
/-- a copy into the scratch State keeps the core -/
theorem Cpd.cor {V V' : xF} {s' : Nat} (h : Cpd 92 s' cpos V V') : Cor V V' := by
  have hk : ∀ a, coreA a = true → a < 92 ∨ 92 + 10 < a := by
    intro a ha
    apply Classical.byContradiction
    intro hc
    have hall : (List.range' 92 11).all (fun a => !coreA a) = true := by decide +kernel
    have := List.all_eq_true.mp hall a (List.mem_range'_1.mpr (by omega))
    rw [ha] at this
    cases this
  exact ⟨fun a ha => h.2 a (hk a ha), by rw [h.2 405 (by omega)], by rw [h.2 405 (by omega)], by rw [h.2 405 (by omega)], by rw [h.2 405 (by omega)], by rw [h.2 76 (by omega)], fun hb => by unfold Bv; rw [h.2 405 (by omega)]; exact hb⟩
end COPY
