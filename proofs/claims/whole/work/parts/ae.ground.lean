section START
variable {s : State} {b L : Nat} {xs : Nat → Int32}
/-- the classes and the kinds of arrays -/
theorem st_K (hts : ∀ w ∈ lw_tbl, w.before #[Value.ref b] s = true) : ∃ (D : va_G) (ca : Nat → ClassId), ∀ G : xG, G.1 = D → G.2.1 = ca → va_K G.1 xcl (xtys G) s := by
  have h0 : ∀ k : Nat, ∃ x : ClassId × (Nat → Nat), ∀ q, xcl[k]? = some q → u_Kn s q.1 q.2.1 q.2.2 x.1 x.2 := by
    intro k
    cases hk : xcl[k]? with
    | none => exact ⟨((0 : Nat), fun _ => 0), fun q hq => by cases hq⟩
    | some q =>
      have hi : Cond.instantiable q.1 q.2.2 ∈ lw_tbl := of_decide_eq_true (List.all_eq_true.mp st_cl0 q (List.mem_of_getElem? hk))
      obtain ⟨cC, iS, h⟩ := u_known (C := q.1) (T := q.2.1) (N := q.2.2) (n := q.2.2) (ws := xTg) (fun w hw => hts w (List.mem_filter.mp hw).1) (xtab_ok.1.2 k q hk).1 (hts _ hi)
      exact ⟨(cC, iS), fun q' hq => by cases hq; exact h⟩
  obtain ⟨f, hf⟩ := Classical.axiomOfChoice h0
  obtain ⟨cI, kI, pI, i1, i2, i3⟩ := Cond.arrayClass_spec (hts (.arrayClass .int) (st_tW1 (by decide +kernel)))
  obtain ⟨cL, kL, pL, l1, l2, l3⟩ := Cond.arrayClass_spec (hts (.arrayClass .long) (st_tW1 (by decide +kernel)))
  obtain ⟨cB, kB, pB, b1, b2, b3⟩ := Cond.arrayClass_spec (hts (.arrayClass .boolean) (st_tW1 (by decide +kernel)))
  obtain ⟨pS, cS, kS, s1, -, s2, s3, s4⟩ := Cond.arrayOver_spec (hts (.arrayOver (.object "EarRooms$State")) (st_tW1 (by decide +kernel)))
  obtain ⟨pA, cA, kA, a1, -, a2, a3, a4⟩ := arrayOverA_spec (hts (.arrayOver (.array .int)) (st_tW1 (by decide +kernel)))
  refine ⟨(fun k => (f k).1, fun k => (f k).2), fun k => if k = 20 then cI else if k = 22 then cL else if k = 23 then cB else if k = 24 then cS else cA, ?_⟩
  intro G hD hca
  refine ⟨fun k q hq => ?_, fun k q hq => ?_⟩
  · rw [hD]; exact hf k q hq
  · unfold xtys at hq
    rw [hca] at hq
    match k, hq with
    | 0, hq => cases hq; exact ⟨fun N z => ⟨(fun k h => by cases h), kI, i2, pI, i3⟩, i1⟩
    | 1, hq => cases hq; exact ⟨fun N z => ⟨(fun k h => by cases h), kL, l2, pL, l3⟩, l1⟩
    | 2, hq => cases hq; exact ⟨fun N z => ⟨(fun k h => by cases h), kB, b2, pB, b3⟩, b1⟩
    | 3, hq => cases hq; exact ⟨fun N z => ⟨(fun k h => by cases h), kS, s2, pS, s3⟩, kS, pS, s2, s3, s1, s4⟩
    | 4, hq => cases hq; exact ⟨fun N z => ⟨(fun k h => by cases h), kA, a2, pA, a3⟩, a4⟩
    | k + 5, hq => simp at hq
/-- the texts -/
theorem st_S {A : Nat → Prop} (hs : ∀ w ∈ nW, w.before #[Value.ref b] s = true) (hA : ∀ a : Nat, a < s.heap.size → ¬ A a) : ∃ aK aV : Nat → Nat, ∀ i, i < 67 → (st_tm i).eval #[Value.ref b] s none [] s = some (.ref (aK i)) ∧ va_O "java/lang/String" (aK i) A s s.heap ∧
    va_OF "java/lang/String" "coder" "B" (.int 0) (aK i) A s s.heap ∧ va_OF "java/lang/String" "value" "[B" (.ref (aV i)) (aK i) A s s.heap ∧ va_T .byte (aV i) (xlenL.getD i 0) (fun j => .int ((xbytL.getD i []).getD j 0)) A s s.heap := by
  have h0 : ∀ i : Nat, ∃ q : Nat × Nat, i < 67 → (st_tm i).eval #[Value.ref b] s none [] s = some (.ref q.1) ∧ va_O "java/lang/String" q.1 A s s.heap ∧ va_OF "java/lang/String" "coder" "B" (.int 0) q.1 A s s.heap ∧ va_OF "java/lang/String" "value" "[B" (.ref q.2) q.1 A s s.heap ∧ va_T .byte q.2 (xlenL.getD i 0) (fun j => .int ((xbytL.getD i []).getD j 0)) A s s.heap := by
    intro i
    by_cases hi : i < 67
    · have w1 := hs _ (st_word hi (w := Cond.exactly (st_tm i) "java/lang/String") List.mem_cons_self)
      have w2 := hs _ (st_word hi (w := Cond.eq (.field (st_tm i) "java/lang/String" "coder" "B") (.int 0)) (List.mem_cons_of_mem _ List.mem_cons_self))
      have w3 := hs _ (st_word hi (w := Cond.arrayOf (.field (st_tm i) "java/lang/String" "value" "[B") .byte) (List.mem_cons_of_mem _ (List.mem_cons_of_mem _ List.mem_cons_self)))
      have w4 := hs _ (st_word hi (w := Cond.eq (.length (.field (st_tm i) "java/lang/String" "value" "[B")) (.int (Int32.ofNat (xlenL.getD i 0)))) (List.mem_cons_of_mem _ (List.mem_cons_of_mem _ (List.mem_cons_of_mem _ List.mem_cons_self))))
      have w5 : ∀ j, j < xlenL.getD i 0 → (Cond.eq (.elem (.field (st_tm i) "java/lang/String" "value" "[B") (.int (Int32.ofNat j))) (.int ((xbytL.getD i []).getD j 0))).before #[Value.ref b] s = true := fun j hj =>
        hs _ (st_word hi (List.mem_cons_of_mem _ (List.mem_cons_of_mem _ (List.mem_cons_of_mem _ (List.mem_cons_of_mem _ (List.mem_map.mpr ⟨j, List.mem_range.mpr hj, rfl⟩))))))
      have hN : xlenL.getD i 0 < 2 ^ 31 := of_decide_eq_true (List.all_eq_true.mp st_lens i (List.mem_range.mpr hi))
      obtain ⟨a, c, cA, kA, q1, q2, q3, q4, q5, q6, -⟩ := Cond.exactly_spec (args := #[Value.ref b]) (first := s) (o := none) (s := s) (idx := []) (t := st_tm i) (cls := "java/lang/String") w1
      obtain ⟨t, ht, hT⟩ := va_Tof (f := fun j => .int ((xbytL.getD i []).getD j 0)) (A := A) hN w3 (va_eqt w4) (fun j hj => va_eqt (w5 j hj)) hA
      exact ⟨(a, t), fun _ => ⟨q1, va_Oof w1 q1 hA, vk_OFof q1 (va_eqt w2) hA, vk_OFof q1 ht hA, hT⟩⟩
    · exact ⟨(0, 0), fun h => absurd h hi⟩
  obtain ⟨ad, had⟩ := Classical.axiomOfChoice h0
  exact ⟨fun i => (ad i).1, fun i => (ad i).2, fun i hi => had i hi⟩
/-- THE GROUND at the law's entry -/
theorem st_G (hL : L ≤ 384) (hts : ∀ w ∈ lw_tbl, w.before #[Value.ref b] s = true) (hX : va_X b L xs s s.heap) (hbl : b < s.heap.size) (hgv : (Jvm.Cond.and given_1 narrow_1).before #[Value.ref b] s = true) :
    ∃ G : xG, G.2.2.1 = s.heap.size ∧ G.2.2.2.1 = (b, L, xs) ∧ xGr xTab2 G s s.heap := by
  have hs : ∀ w ∈ nW, w.before #[Value.ref b] s = true := flat_of_before _ hgv
  obtain ⟨D, ca, hK⟩ := st_K hts
  have hA : ∀ a : Nat, a < s.heap.size → ¬ (fun q : Nat => s.heap.size ≤ q) a := fun a h => Nat.not_le.mpr h
  obtain ⟨aK, aV, hS⟩ := st_S (A := fun q : Nat => s.heap.size ≤ q) hs hA
  obtain ⟨tB, ht, hT⟩ := va_Tof (tm := .static "EarRooms$Sound" "BACK" "[I") (ty := .int) (N := 5) (f := fun j => .int (Int32.ofInt (xback5 j))) (A := fun q : Nat => s.heap.size ≤ q) (by decide) (hs _ (st_nar1 (by decide +kernel)))
    (va_eqt (hs _ (st_nar1 (by decide +kernel)))) (fun j hj => va_eqt (hs _ (of_decide_eq_true (List.all_eq_true.mp st_back0 j (List.mem_range.mpr hj))))) hA
  refine ⟨(D, ca, s.heap.size, (b, L, xs), tB, aK, aV), rfl, rfl, hK _ rfl rfl, ⟨hX, hbl, hA b hbl, by show L < 2147483648; omega⟩, ⟨va_Zref (hts _ (st_tW1 (by decide +kernel))) (hts _ (st_tW1 (by decide +kernel))) ht hA, hT⟩, fun i hi => (hS i hi).2, fun q hq => ?_,
    ⟨va_Zof (hts _ (st_tW1 (by decide +kernel))) (hts _ (st_tW1 (by decide +kernel))) (va_eqt (hs _ (st_nar1 (by decide +kernel)))) hA, va_Zqof (hts _ (st_tW1 (by decide +kernel))) (hts _ (st_tW1 (by decide +kernel))) (hs _ (st_nar1 (by decide +kernel))) hA⟩,
    ⟨vx_Zqof (hts _ (st_tW1 (by decide +kernel))) (hts _ (st_tW1 (by decide +kernel))) (hs _ (st_nar1 (by decide +kernel))) hA, vx_Zqof (hts _ (st_tW1 (by decide +kernel))) (hts _ (st_tW1 (by decide +kernel))) (hs _ (st_nar1 (by decide +kernel))) hA⟩,
    ⟨va_AO.of (hts _ (st_tW1 (by decide +kernel))), va_AOA.of (hts _ (st_tW1 (by decide +kernel)))⟩, fun w hw => ?_, fun q hq => va_Nc.of (hs _ (of_decide_eq_true (List.all_eq_true.mp st_nc0 q hq)))⟩
  · have h1 := List.all_eq_true.mp st_sl0 q hq
    rw [Bool.and_eq_true, Bool.and_eq_true] at h1
    have e1 := of_decide_eq_true h1.1.1
    have e2 := of_decide_eq_true h1.1.2
    have e3 := (hS q.2.2.2 e1).1
    rw [e2] at e3
    exact ⟨e1, vk_R.of (hts _ (of_decide_eq_true h1.2)) e3⟩
  · have hw : w = jcl ∨ w ∈ xbadL := List.mem_cons.mp hw
    rcases hw with rfl | hw
    · exact ⟨Or.inl ⟨_, _, rfl⟩, va_Nw.of rfl (hts _ (st_tW1 (by decide +kernel)))⟩
    · have hm : w ∈ lw_tbl := of_decide_eq_true (List.all_eq_true.mp st_bad0 w hw)
      have h2 := st_bad1 w hw
      refine ⟨h2, ?_⟩
      rcases h2 with ⟨x, y, rfl⟩ | ⟨x, rfl⟩
      · exact va_Nw.of rfl (hts _ hm)
      · exact va_Nw.of rfl (hts _ hm)
end START
