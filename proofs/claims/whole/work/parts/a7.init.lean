/-! ===== BEHIND THE CONSTRUCTORS ===== -/
def bV (xs : Nat → Int32) : xF := fun a i => if a < 70 then tV0 xTab xs a i else 0
def bK (L : Nat) : Nat → Nat × Nat := fun a => if a < 70 then tK0 xTab L a else (0, 0)
def kd1 (L : Nat) : Nat → Nat × Nat := fun a => if a = 1 then (21, L) else (0, 0)
theorem bV_hi {xs : Nat → Int32} : ∀ a, 70 ≤ a → bV xs a = fun _ => 0 := fun a ha => by
  funext i
  unfold bV
  rw [if_neg (by omega)]
theorem getD_far {l : List Nat} {k n : Nat} (h : l.length ≤ n) : l.getD (k + n) 0 = 0 := by
  rw [List.getD_eq_getElem?_getD, List.getElem?_eq_none (by omega)]
  rfl
theorem blt_far {k n : Nat} (h : n ≤ 121) : Nat.blt (k + 121) n = false := by
  cases e : Nat.blt (k + 121) n
  · rfl
  · exact absurd (Nat.le_of_ble_eq_true e) (by omega)
theorem yR0_far {a k : Nat} : yR0 a (k + 121) = 0 := by
  unfold yR0
  rw [blt_far (n := 12) (by decide), blt_far (n := 121) (by decide), blt_far (n := 5) (by decide), blt_far (n := 6) (by decide)]
  repeat' split
  all_goals first | rfl | (rename_i hh; cases hh)
theorem yR_far {lw : Nat → Nat} {kd : Nat → Nat × Nat} {a j : Nat} (ha : a < 421) (h : 121 ≤ j) : yR lw kd a j = 0 := by
  obtain ⟨k, rfl⟩ : ∃ k, j = k + 121 := ⟨j - 121, by omega⟩
  unfold yR
  have h11 : Nat.beq (k + 121) 11 = false := by
    cases e : Nat.beq (k + 121) 11
    · rfl
    · exact absurd (beq_t e) (by omega)
  rw [h11, show Nat.blt a 421 = true from Nat.ble_eq_true_of_le ha, yR0_far]
theorem yR_low {lw : Nat → Nat} {kd : Nat → Nat × Nat} {a j : Nat} (ha : a < 70) : yR lw kd a j = 0 := by
  have hs : yst a = false := by
    have hall : ∀ a : Fin 70, yst a.1 = false := by decide +kernel
    exact hall ⟨a, ha⟩
  have t : ∀ n, 70 ≤ n → Nat.blt a n = true := fun n hn => Nat.ble_eq_true_of_le (by omega)
  have h0 : yR0 a j = 0 := by
    unfold yR0
    rw [t 180 (by decide), t 124 (by decide), t 92 (by decide), t 77 (by decide), t 71 (by decide), t 70 (by decide)]
  unfold yR
  rw [hs, t 421 (by decide), h0]
  cases Nat.beq j 11 <;> rfl
theorem gR_filter {a j : Nat} : ∀ r : List (Nat × Nat × Nat), gR (r.filter (fun e => Nat.beq e.1 a)) a j = gR r a j
  | [] => rfl
  | e :: r => by
    cases h : Nat.beq e.1 a with
    | true =>
      rw [List.filter_cons_of_pos (by exact h)]
      unfold gR
      rw [gR_filter r]
    | false =>
      rw [List.filter_cons_of_neg (by rw [h]; decide), gR_filter r]
      have h2 : Nat.beq a e.1 = false := by
        cases q : Nat.beq a e.1
        · rfl
        · exact absurd (beq_t q).symm (beq_f h)
      show gR r a j = gR (e :: r) a j
      unfold gR
      rw [h2]
      cases r <;> rfl
theorem cR_none {a j : Nat} : ∀ r : List (Nat × Nat × Nat), (∀ e ∈ r, ¬ (e.1 = a ∧ e.2.1 = j)) → cR r a j = 0
  | [], _ => rfl
  | e :: r, h => by
    show up2 (cR r) e.1 e.2.1 e.2.2 a j = 0
    unfold up2
    rw [if_neg (fun q => h e List.mem_cons_self ⟨q.1.symm, q.2.symm⟩)]
    exact cR_none r (fun q hq => h q (List.mem_cons_of_mem _ hq))
theorem cV_none {V0 : xF} {a j : Nat} : ∀ w : List (Nat × Nat × Int), (∀ e ∈ w, ¬ (e.1 = a ∧ e.2.1 = j)) → cV V0 w a j = V0 a j
  | [], _ => rfl
  | e :: w, h => by
    show up2 (cV V0 w) e.1 e.2.1 e.2.2 a j = _
    unfold up2
    rw [if_neg (fun q => h e List.mem_cons_self ⟨q.1.symm, q.2.symm⟩)]
    exact cV_none w (fun q hq => h q (List.mem_cons_of_mem _ hq))
/-- the row of a room of which nothing was told -/
def p0R : Rw := fun k => if k = 1 then -1 else if k = 5 then -1 else if k = 8 then 20 else if k = 10 then 2 else if k = 15 then 1 else 0
theorem p0_z {k : Nat} (h1 : k ≠ 1) (h2 : k ≠ 5) (h3 : k ≠ 8) (h4 : k ≠ 10) (h5 : k ≠ 15) : p0R k = 0 := by unfold p0R; rw [if_neg h1, if_neg h2, if_neg h3, if_neg h4, if_neg h5]
theorem p0_WF : WF p0R := by
  have d : ∀ r o : Nat, dO_ p0R r o = 0 := fun r o => p0_z (by omega) (by omega) (by omega) (by omega) (by omega)
  refine ⟨by decide, by decide, by decide, by decide, by decide, by decide, by decide, by decide, by decide, by decide, by decide, fun r hr => ?_, fun t ht => ?_, fun t u ht => ?_, fun r o _ _ => ?_, Or.inl rfl⟩
  · have h3 : p0R 3 = 0 := rfl
    rw [h3] at hr; omega
  · have h4 : p0R 4 = 0 := rfl
    rw [h4] at ht; omega
  · have h4 : p0R 4 = 0 := rfl
    rw [h4] at ht; omega
  · rw [d, d]
    exact ⟨Or.inl rfl, rfl, fun h => absurd h (by decide)⟩
theorem getD_map {f : Int32 → Int} (h0 : f 0 = 0) (l : List Int32) (j : Nat) : (l.map f).getD j 0 = f (l.getD j 0) := by
  rw [List.getD_eq_getElem?_getD, List.getD_eq_getElem?_getD, List.getElem?_map]
  cases l[j]? with
  | none => exact h0.symm
  | some x => rfl
/-- what the constructors leave holds -/
theorem start_inv {xs : Nat → Int32} {L : Nat} {q : List xV × cM} (hok : cOK q.2) (hc : cchk q = true) : ∃ V D, cden (bV xs) (bK L) q.2 = mk V D ∧ q.1 = [vr 1, vr 70, vr 405, vr 420, vi 0, vr 0, vr 0] ∧ Inv (fun j => (xs j).toInt) L V D 0 (fun _ => 0) 0 [] := by
  unfold cchk at hc
  simp only [Bool.and_eq_true] at hc
  obtain ⟨⟨⟨⟨⟨⟨⟨⟨c1, c2⟩, c3⟩, c4⟩, c5⟩, c6⟩, c7⟩, c8⟩, c9⟩ := hc
  have e1 := of_decide_eq_true c1
  have e2 : q.2.2.2.2.1 = 421 := beq_t c2
  have e3 := Nat.le_of_ble_eq_true c3
  have e4 := Nat.le_of_ble_eq_true c4
  have k5 : ∀ a, 70 ≤ a → a < 421 → gK q.2 a = yK0 a := fun a h1 h2 => by
    have := List.all_eq_true.mp c5 a (List.mem_range'.mpr ⟨a - 70, by omega, by omega⟩)
    rw [Bool.and_eq_true] at this
    exact Prod.ext (beq_t this.1) (beq_t this.2)
  have r6 : ∀ e ∈ q.2.2.1, 70 ≤ e.1 ∧ e.2.1 < 121 := fun e he => by
    have := List.all_eq_true.mp c6 e he
    rw [Bool.and_eq_true] at this
    exact ⟨Nat.le_of_ble_eq_true this.1, Nat.le_of_ble_eq_true this.2⟩
  have r7 : ∀ a, 70 ≤ a → a < 421 → ∀ j, j < 121 → gR q.2.2.1 a j = yR lw0 kd0 a j := fun a h1 h2 j hj => by
    have := List.all_eq_true.mp (List.all_eq_true.mp c7 a (List.mem_range'.mpr ⟨a - 70, by omega, by omega⟩)) j (List.mem_range.mpr hj)
    rw [← gR_filter]
    exact beq_t this
  have v8 : ∀ e ∈ q.2.1, 70 ≤ e.1 ∧ e.1 ≠ 77 ∧ e.1 ≠ 410 ∧ ¬ (82 ≤ e.1 ∧ e.1 ≤ 91) ∧ (e.1 = 406 → e.2.1 = 1 ∨ e.2.1 = 5 ∨ e.2.1 = 8 ∨ e.2.1 = 10 ∨ e.2.1 = 15) := fun e he => by
    have := List.all_eq_true.mp c8 e he
    simp only [Bool.and_eq_true] at this
    obtain ⟨⟨⟨⟨a1, a2⟩, a3⟩, a4⟩, a5⟩ := this
    refine ⟨Nat.le_of_ble_eq_true a1, fun h => ?_, fun h => ?_, fun h => ?_, fun h => ?_⟩
    · rw [h] at a2; exact absurd a2 (by decide)
    · rw [h] at a3; exact absurd a3 (by decide)
    · rw [show Nat.ble 82 e.1 = true from Nat.ble_eq_true_of_le h.1, show Nat.ble e.1 91 = true from Nat.ble_eq_true_of_le h.2] at a4
      exact absurd a4 (by decide)
    · rw [h] at a5
      simp only [Bool.or_eq_true] at a5
      rcases a5 with ((((a5 | a5) | a5) | a5) | a5) | a5
      · exact absurd a5 (by decide)
      · exact Or.inl (beq_t a5)
      · exact Or.inr (Or.inl (beq_t a5))
      · exact Or.inr (Or.inr (Or.inl (beq_t a5)))
      · exact Or.inr (Or.inr (Or.inr (Or.inl (beq_t a5))))
      · exact Or.inr (Or.inr (Or.inr (Or.inr (beq_t a5))))
  obtain ⟨V, hV⟩ : ∃ V, V = cV (bV xs) q.2.1 := ⟨_, rfl⟩
  have fact : ∀ a j z, (a, j, z) ∈ cFacts → 70 ≤ a → V a j = z := fun a j z h h7 => by
    have := of_decide_eq_true (List.all_eq_true.mp c9 (a, j, z) h)
    rw [hV, gV_eq (by rw [bV_hi a h7])]
    exact this
  have row : ∀ a, (a < 70 ∨ a = 77 ∨ a = 410 ∨ (82 ≤ a ∧ a ≤ 91)) → V a = bV xs a := fun a ha => by
    rw [hV]
    exact cV_row _ (fun e he => by have := v8 e he; omega)
  have z0 : ∀ a, (a = 77 ∨ a = 410 ∨ (82 ≤ a ∧ a ≤ 91)) → ∀ j, V a j = 0 := fun a ha j => by rw [row a (by omega), bV_hi a (by omega)]
  have lo : ∀ a, a < 70 → ∀ j, V a j = tV0 xTab xs a j := fun a ha j => by
    rw [row a (by omega)]
    exact if_pos ha
  have e406 : V 406 = p0R := by
    funext j
    by_cases h1 : j = 1
    · rw [h1, fact 406 1 (-1) (by decide) (by decide)]; rfl
    by_cases h2 : j = 5
    · rw [h2, fact 406 5 (-1) (by decide) (by decide)]; rfl
    by_cases h3 : j = 8
    · rw [h3, fact 406 8 20 (by decide) (by decide)]; rfl
    by_cases h4 : j = 10
    · rw [h4, fact 406 10 2 (by decide) (by decide)]; rfl
    by_cases h5 : j = 15
    · rw [h5, fact 406 15 1 (by decide) (by decide)]; rfl
    rw [p0_z h1 h2 h3 h4 h5, hV, cV_none _ (fun e he hh => by have := (v8 e he).2.2.2.2 hh.1; omega), bV_hi 406 (by decide)]
  refine ⟨V, (cZ, lw0, kd1 L, q.2.2.2.2), ?_, e1, ?_⟩
  · have eR : cR q.2.2.1 = yR lw0 (kd1 L) := by
      funext a j
      by_cases h1 : a < 70
      · rw [yR_low h1]
        exact cR_none _ (fun e he hh => by have := r6 e he; omega)
      · by_cases h2 : a < 421
        · by_cases h3 : j < 121
          · rw [gR_eq, r7 a (by omega) h2 j h3]
            exact yR_lt h2
          · rw [yR_far h2 (by omega)]
            exact cR_none _ (fun e he hh => by have := r6 e he; omega)
        · rw [yR_ge (by omega), if_neg]
          · exact cR_none _ (fun e he hh => by have := hok.2.2 e he; omega)
          · unfold kd1
            rw [if_neg (by omega)]
            exact fun hh => absurd hh.1 (by decide)
    have eK : cK (bK L) q.2.2.2.1 = yK (kd1 L) := by
      funext a
      have hl := hok.1
      by_cases h1 : a < 70
      · rw [cK_lo h1]
        unfold bK
        rw [if_pos h1]
        by_cases h2 : a = 1
        · subst h2; rfl
        · rw [yK_lt _ (by omega) h2]
          have hall : ∀ a : Fin 70, a.1 ≠ 1 → tK0 xTab 0 a.1 = yK0 a.1 := by decide +kernel
          rw [← hall ⟨a, h1⟩ h2]
          unfold tK0
          dsimp only
          (repeat' split) <;> first | rfl | omega
      · by_cases h2 : a < 421
        · rw [yK_lt _ h2 (by omega), ← k5 a (by omega) h2, cK_eq (by omega) _ (by omega), ← hl]
          unfold gK
          rw [show Nat.ble 70 a = true from Nat.ble_eq_true_of_le (by omega), show Nat.blt a q.2.2.2.2.1 = true from Nat.ble_eq_true_of_le (by omega)]
        · rw [cK_hi _ (by omega), yK_ge (by omega)]
          unfold bK kd1
          rw [if_neg (by omega), if_neg (by omega)]
    unfold cden mk
    rw [eR, eK, ← hV]
  · refine ⟨⟨fun k _ => z0 77 (by omega) k, fun k _ => z0 410 (by omega) k, fun _ _ => ⟨Int.le_refl _, by show (0 : Int) ≤ 255; decide⟩, fact 76 1 0 (by decide) (by decide), fact 405 8 0 (by decide) (by decide), by decide, by decide⟩, ⟨?_, ?_, ?_⟩, ⟨?_, by rw [e406]; exact p0_WF, by rw [e406]; exact ⟨by decide, by decide⟩⟩, ⟨⟨by show (71 : Nat) ≠ 0; decide, rfl, fun x hx => (nomatch hx), Nat.zero_le _, Nat.zero_le _, Or.inl ⟨rfl, ?_, rfl⟩⟩, TXT_none (by rw [e406]; decide), ?_, Or.inl rfl⟩, PastR.nil ?_ (fact 70 8 0 (by decide) (by decide)) (fact 405 6 0 (by decide) (by decide)), ⟨?_, ?_⟩, ⟨by show (71 : Nat) ≠ 0; decide, fun h => absurd (fact 405 3 0 (by decide) (by decide)) h⟩, ⟨by rw [e2]; exact Nat.le_refl _, e3, e4⟩, ?_, rfl⟩
    · funext i
      rw [lo 2 (by decide)]
      rfl
    · intro a h1 h2 j
      rw [lo a h2]
      unfold wdS
      rw [getD_map (by decide)]
      unfold tV0
      rw [if_neg (by omega), if_neg (by omega), if_neg (by omega)]
      rfl
    · exact ⟨Or.inl (fact 405 15 0 (by decide) (by decide)), Or.inl (fact 405 16 0 (by decide) (by decide))⟩
    · rw [e406]
      have z : ∀ k, 16 ≤ k → p0R k = 0 := fun k hk => p0_z (by omega) (by omega) (by omega) (by omega) (by omega)
      refine ⟨fact 81 0 0 (by decide) (by decide), fun r _ => ?_, fun r _ => ?_, fun r w _ _ => ?_, fun r _ => ?_, fun r _ => ?_, fact 81 6 0 (by decide) (by decide), fun t _ => ?_, fun t _ => ?_, fun t _ => ?_, fact 81 10 0 (by decide) (by decide), fact 81 12 (-1) (by decide) (by decide), fact 81 13 (-1) (by decide) (by decide), fact 81 14 20 (by decide) (by decide), fact 81 15 0 (by decide) (by decide), fact 81 16 2 (by decide) (by decide), fact 81 17 0 (by decide) (by decide), fact 81 18 0 (by decide) (by decide), fact 81 19 1 (by decide) (by decide), z0 90 (by omega) 0, z0 90 (by omega) 1, fun k _ => ?_⟩
      · rw [z0 82 (by omega)]; exact (z _ (by omega)).symm
      · rw [z0 83 (by omega)]; exact (z _ (by omega)).symm
      · rw [z0 84 (by omega)]; exact (z _ (by omega)).symm
      · rw [z0 85 (by omega)]; exact (z _ (by omega)).symm
      · rw [z0 86 (by omega)]
        unfold dB_ dO_
        rw [z _ (by omega), z _ (by omega), z _ (by omega), z _ (by omega), z _ (by omega)]
        rfl
      · rw [z0 87 (by omega)]; exact (z _ (by omega)).symm
      · rw [z0 88 (by omega)]; exact (z _ (by omega)).symm
      · rw [z0 89 (by omega)]; exact (z _ (by omega)).symm
      · rw [z0 91 (by omega)]; exact (z _ (by omega)).symm
    · show V 71 0 ≤ 0
      rw [fact 71 0 (-1) (by decide) (by decide)]; decide
    · rw [e406]; exact fact 71 0 (-1) (by decide) (by decide)
    · rw [fact 70 7 0 (by decide) (by decide)]; decide
    · rw [fact 70 1 (-1) (by decide) (by decide), fact 405 12 (-1) (by decide) (by decide)]
    · rw [fact 70 5 0 (by decide) (by decide), fact 405 3 0 (by decide) (by decide)]
    · funext i
      rw [lo 1 (by decide)]
      rfl
/-- the law's method, from its beginning to its answer -/
theorem law_runs {xs : Nat → Int32} {L d : Nat} (hL : L ≤ 384) (hd : 30 ≤ d) : Runs xPP d 381 0 (xlocs 7 [vr 1]) [] (bV xs, cZ, cR [], bK L, 70, 0, 0) (fun r M => r = .inl (some (vi 1)) ∧ M.2.2.2.2.2.1 ≤ 3000 ∧ M.2.2.2.2.2.2 ≤ 300000) := by
  have h := ctop_chk
  cases hr : ctop xPP 381 23 100 0 (xlocs 7 [vr 1]) [] cC0 with
  | none => rw [hr] at h; cases h
  | some q =>
    rw [hr] at h
    have h : cchk q = true := h
    obtain ⟨o1, o2⟩ := ctop_ok (K0 := bK L) (V0 := bV xs) bV_hi 100 cC0_ok hr
    refine o2 d _ ?_
    obtain ⟨V, D, eM, eL, hI⟩ := start_inv (xs := xs) (L := L) o1 h
    rw [eM, eL]
    have hr32 : ∀ j, r32 ((xs j).toInt) := fun j => ⟨(xs j).le_toInt, (xs j).toInt_lt⟩
    have := loop (Q := fun r _ D => r = .inl (some (vi 1)) ∧ D.2.2.2.2.1 ≤ 3000 ∧ D.2.2.2.2.2 ≤ 300000) hr32 hL hd (fun V D k b n ls hk hi => ⟨rfl, by have := hi.ct; omega, by have := hi.ct; omega⟩) 65 0 V D _ _ _ (vr 0) (vr 0) rfl (Nat.zero_le _) hI
    refine Runs.mono this ?_
    rintro r M ⟨V1, D1, rfl, g1, g2, g3⟩
    exact ⟨g1, g2, g3⟩
