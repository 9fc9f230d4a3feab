/-! ===== ROWS BEHIND ACTS ===== -/
theorem WF.gen {p q : Rw} (hW : WF p) (h : ∀ k, k < 91 → k ≠ 5 → k ≠ 6 → k ≠ 7 → k ≠ 12 → k ≠ 13 → k ≠ 14 → k ≠ 15 → q k = p k) (h12 : 0 ≤ q 12 ∧ q 12 ≤ 9999) (h13 : 0 ≤ q 13 ∧ q 13 ≤ 9999) (h14 : 0 ≤ q 14 ∧ q 14 ≤ 60)
    (hs : q 5 = -1 ∨ (0 ≤ q 5 ∧ q 5 < p 3 ∧ 1 ≤ q 6 ∧ q 6 < rW p (q 5).toNat ∧ 1 ≤ q 7 ∧ q 7 < rD p (q 5).toNat)) : WF q := by
  have r4 : p 4 ≤ 5 := hW.2.1.2
  have r3 : p 3 ≤ 5 := hW.1.2
  obtain ⟨g1, g2, g3, g4, g5, g6, g7, g8, g9, g10, g11, g12, g13, g14, g15, g16⟩ := hW
  have n : ∀ k, k < 91 → (k < 5 ∨ (8 ≤ k ∧ k < 12) ∨ 16 ≤ k) → q k = p k := fun k h1 h2 => h k h1 (by omega) (by omega) (by omega) (by omega) (by omega) (by omega) (by omega)
  unfold WF
  rw [n 3 (by omega) (by omega), n 4 (by omega) (by omega), n 0 (by omega) (by omega), n 1 (by omega) (by omega), n 8 (by omega) (by omega), n 9 (by omega) (by omega), n 10 (by omega) (by omega), n 11 (by omega) (by omega)]
  refine ⟨g1, g2, g3, g4, g5, g6, h12, h13, h14, g10, g11, fun r hr => ?_, fun t ht => ?_, fun t u ht hu => ?_, fun r o hr ho => ?_, ?_⟩
  · have := g12 r hr
    unfold rW rD rS rR at *
    rw [n _ (by omega) (by omega), n _ (by omega) (by omega), n _ (by omega) (by omega)]
    exact ⟨this.1, this.2.1, fun w hw => by rw [n _ (by omega) (by omega)]; exact this.2.2.1 w hw, this.2.2.2⟩
  · have := g13 t ht
    unfold tP_ tW_ tL_ at *
    rw [n _ (by omega) (by omega), n _ (by omega) (by omega), n _ (by omega) (by omega)]
    exact this
  · have := g14 t u ht hu
    unfold tL_ at *
    rw [n _ (by omega) (by omega), n _ (by omega) (by omega)]
    exact this
  · have := g15 r o hr ho
    unfold dO_ at *
    rw [n _ (by omega) (by omega), n _ (by omega) (by omega)]
    exact this
  · rcases hs with g | g
    · exact Or.inl g
    · right
      unfold rW rD at *
      have x1 : q (16 + 7 * (q 5).toNat) = p (16 + 7 * (q 5).toNat) := n _ (by omega) (by omega)
      have x2 : q (17 + 7 * (q 5).toNat) = p (17 + 7 * (q 5).toNat) := n _ (by omega) (by omega)
      rw [x1, x2]
      exact g
theorem WF.doorz {p : Rw} (hW : WF p) {r o : Nat} {z : Int} (hr : (r : Int) < p 3) (ho : (o : Int) < p 3) (hn : r ≠ o) (hz : z = 0 ∨ z = 1) : WF (drR p r o z) := by
  have r4 : p 4 ≤ 5 := hW.2.1.2
  have r3 : p 3 ≤ 5 := hW.1.2
  obtain ⟨g1, g2, g3, g4, g5, g6, g7, g8, g9, g10, g11, g12, g13, g14, g15, g16⟩ := hW
  have n : ∀ k, k < 66 → drR p r o z k = p k := fun k h1 => by unfold drR; rw [rup_n (by omega), rup_n (by omega)]
  have dd : ∀ x y : Nat, x < 5 → y < 5 → dO_ (drR p r o z) x y = if (x = r ∧ y = o) ∨ (x = o ∧ y = r) then z else dO_ p x y := by
    intro x y hx hy
    unfold dO_ drR
    rw [rup2]
    by_cases e : (x = r ∧ y = o) ∨ (x = o ∧ y = r)
    · rw [if_pos e, if_pos (by omega)]
    · rw [if_neg e, if_neg (by omega)]
  unfold WF
  rw [n 3 (by omega), n 4 (by omega), n 0 (by omega), n 1 (by omega), n 5 (by omega), n 6 (by omega), n 7 (by omega), n 8 (by omega), n 9 (by omega), n 10 (by omega), n 11 (by omega), n 12 (by omega), n 13 (by omega), n 14 (by omega)]
  refine ⟨g1, g2, g3, g4, g5, g6, g7, g8, g9, g10, g11, fun x hx => ?_, fun t ht => ?_, fun t u ht hu => ?_, fun x y hx hy => ?_, ?_⟩
  · have := g12 x hx
    unfold rW rD rS rR at *
    rw [n _ (by omega), n _ (by omega), n _ (by omega)]
    exact ⟨this.1, this.2.1, fun w hw => by rw [n _ (by omega)]; exact this.2.2.1 w hw, this.2.2.2⟩
  · have := g13 t ht
    unfold tP_ tW_ tL_ at *
    rw [n _ (by omega), n _ (by omega), n _ (by omega)]
    exact this
  · have := g14 t u ht hu
    unfold tL_ at *
    rw [n _ (by omega), n _ (by omega)]
    exact this
  · have h1 := g15 x y hx hy
    rw [dd x y hx hy, dd y x hy hx]
    by_cases e : (x = r ∧ y = o) ∨ (x = o ∧ y = r)
    · rw [if_pos e, if_pos (by omega)]
      exact ⟨hz, rfl, fun _ => by omega⟩
    · rw [if_neg e, if_neg (by omega)]
      exact h1
  · rcases g16 with g | g
    · exact Or.inl g
    · right
      unfold rW rD at *
      rw [n _ (by omega), n _ (by omega)]
      exact g
/-- an act's row is well formed, and has the law's text -/
def rowOK (p : Rw) (A : aAct) : Prop := match A with
  | .inl q => WF q.2 ∧ (∀ k, (k = 1 ∨ k = 2 ∨ k = 15 ∨ 331 ≤ k) → q.2 k = p k)
  | .inr _ => True
theorem rowOK.txt {p : Rw} {ls : List Ln} {q : Int × Rw} (h : rowOK p (.inl q)) (hT : TXT p ls) : TXT q.2 ls := hT.cong (h.2 1 (by omega)) (h.2 2 (by omega)) (fun k hk => h.2 k (by omega))
theorem rowOK_if {p : Rw} {c : Prop} {a b : aAct} (h1 : c → rowOK p a) (h2 : ¬ c → rowOK p b) : rowOK p (sIf c a b) := by
  by_cases h : c
  · rw [sIf_y h]; exact h1 h
  · rw [sIf_n h]; exact h2 h
section ROWSOK
variable {p : Rw} {ls : List Ln}
theorem ro_hang (hW : WF p) {r w s : Int} : rowOK p (aHang p r w s) := rowOK_if (fun h => ⟨hW.sort (hW.r5 h.1).1 (by omega) h.2.2, fun k hk => rup_n (by have := (hW.r5 h.1).1; omega)⟩) (fun _ => trivial)
theorem ro_rent (hW : WF p) {r n : Int} : rowOK p (aRent p r n) := rowOK_if (fun h => rowOK_if (fun hn => ⟨hW.rentz (hW.r5 h).1 hn, fun k hk => rup_n (by have := (hW.r5 h).1; omega)⟩) (fun _ => trivial)) (fun _ => trivial)
theorem seat_WF (hW : WF p) {r x y : Int} (h : plA p r x y) : WF (rup (rup (rup p 5 r) 6 x) 7 y) := by
  have n : ∀ k, k ≠ 5 → k ≠ 6 → k ≠ 7 → rup (rup (rup p 5 r) 6 x) 7 y k = p k := fun k h5 h6 h7 => by rw [rup_n h7, rup_n h6, rup_n h5]
  have e5 : rup (rup (rup p 5 r) 6 x) 7 y 5 = r := by rw [rup_n (by decide), rup_n (by decide), rup_a]
  have e6 : rup (rup (rup p 5 r) 6 x) 7 y 6 = x := by rw [rup_n (by decide), rup_a]
  have e7 : rup (rup (rup p 5 r) 6 x) 7 y 7 = y := rup_a
  refine hW.gen (fun k _ h5 h6 h7 _ _ _ _ => n k h5 h6 h7) ?_ ?_ ?_ (Or.inr ?_)
  · rw [n 12 (by decide) (by decide) (by decide)]; exact hW.2.2.2.2.2.2.1
  · rw [n 13 (by decide) (by decide) (by decide)]; exact hW.2.2.2.2.2.2.2.1
  · rw [n 14 (by decide) (by decide) (by decide)]; exact hW.2.2.2.2.2.2.2.2.1
  · rw [e5, e6, e7]
    exact ⟨h.1.1, h.1.2, h.2.1.1, h.2.1.2, h.2.2.1, h.2.2.2⟩
theorem ro_enter (hW : WF p) {r : Int} : rowOK p (aEnter p r) := rowOK_if (fun h => by
  obtain ⟨m, rfl⟩ : ∃ m : Nat, r = (m : Int) := ⟨r.toNat, by omega⟩
  rw [nn_toNat]
  have hm := mid_pl hW h.2
  unfold isPl at hm
  exact ⟨seat_WF hW (r := (m : Int)) ⟨h, by rw [nn_toNat]; exact hm⟩, fun k hk => by show rup (rup (rup p 5 _) 6 _) 7 _ k = p k; rw [rup_n (by omega), rup_n (by omega), rup_n (by omega)]⟩) (fun _ => trivial)
theorem ro_step (hW : WF p) {k : Int} : rowOK p (aStep p k) := rowOK_if (fun _ => rowOK_if (fun _ => trivial) (fun h => by
  have h2 : plA p (p 5) (p 6 + sdX k) (p 7 + sdY k) := Classical.byContradiction fun g => h (Or.inr g)
  exact ⟨seat_WF hW h2, fun j hj => by show rup (rup (rup p 5 _) 6 _) 7 _ j = p j; rw [rup_n (by omega), rup_n (by omega), rup_n (by omega)]⟩)) (fun _ => trivial)
theorem ro_door (hW : WF p) {r o b : Int} : rowOK p (aDoor p r o b) := rowOK_if (fun h => rowOK_if (fun _ => trivial) (fun hn => by
  have h1 := hW.r5 h.1
  have h2 := hW.r5 h.2
  refine ⟨hW.doorz (by rw [h1.2]; exact h.1.2) (by rw [h2.2]; exact h.2.2) (by intro e; apply hn; omega) (by split <;> simp), fun k hk => ?_⟩
  show drR p _ _ _ k = p k
  unfold drR
  rw [rup_n (by omega), rup_n (by omega)])) (fun _ => trivial)
theorem ro_take (hW : WF p) {t r : Int} : rowOK p (aTake p t r) := rowOK_if (fun h => rowOK_if (fun _ => trivial) (fun hn => by
  obtain ⟨t, rfl⟩ : ∃ m : Nat, t = (m : Int) := ⟨t.toNat, by omega⟩
  have ht := hW.ten h.1.2
  rw [nn_toNat]
  refine ⟨hW.lodge ht.1 ?_, fun k hk => rup_n (by omega)⟩
  by_cases hr : r = -1
  · exact Or.inl hr
  · have hr2 : 0 ≤ r ∧ r < p 3 := by rcases h.2 with g | g; exact absurd g hr; exact g
    refine Or.inr ⟨hr2.1, hr2.2, fun u hu he => ?_⟩
    by_cases hh : hdr p r = -1
    · exact absurd he (hdr_no hh hu)
    · have hht : hdr p r = (t : Int) := Classical.byContradiction fun g => hn ⟨hr, hh, g⟩
      -- he who has it is the one told
      rcases fstB_spec (fun t => decide (tL_ p t = r)) (p 4).toNat with ⟨e, _⟩ | ⟨m, e, m1, m2, _⟩
      · exact absurd e hh
      · have m2 : tL_ p m = r := of_decide_eq_true m2
        have : m = u := hW.uni (by omega) hu (by rw [m2, he]) (by rw [m2]; exact hr)
        have e : hdr p r = (m : Int) := e
        omega)) (fun _ => trivial)
theorem ro_clap (hW : WF p) : rowOK p (aClap p) := rowOK_if (fun _ => trivial) (fun hn => by
  have h13 := hW.2.2.2.2.2.2.2.1
  have h14 := hW.2.2.2.2.2.2.2.2.1
  have n : ∀ k, k ≠ 13 → k ≠ 14 → (k < 91 ∨ 331 ≤ k) → clR p (hearT p (p 5).toNat (p 6) (p 7)) k = p k := fun k h1 h2 h3 => by
    unfold clR
    rw [rup_n h1, lgs_k h2 h3]
  refine ⟨hW.gen (fun k hk _ _ _ _ a b _ => n k a b (Or.inl hk)) ?_ ?_ ?_ ?_, fun k hk => n k (by omega) (by omega) (by omega)⟩
  · show 0 ≤ clR p (hearT p (p 5).toNat (p 6) (p 7)) 12 ∧ clR p (hearT p (p 5).toNat (p 6) (p 7)) 12 ≤ 9999
    rw [n 12 (by decide) (by decide) (by omega)]; exact hW.2.2.2.2.2.2.1
  · show 0 ≤ clR p (hearT p (p 5).toNat (p 6) (p 7)) 13 ∧ clR p (hearT p (p 5).toNat (p 6) (p 7)) 13 ≤ 9999
    unfold clR
    rw [rup_a]
    split <;> omega
  · show 0 ≤ clR p (hearT p (p 5).toNat (p 6) (p 7)) 14 ∧ clR p (hearT p (p 5).toNat (p 6) (p 7)) 14 ≤ 60
    unfold clR
    rw [rup_n (by decide)]
    exact lgs_14 64 p h14
  · show clR p (hearT p (p 5).toNat (p 6) (p 7)) 5 = -1 ∨ _
    right
    have hs := hW.seat hn
    show 0 ≤ clR p (hearT p (p 5).toNat (p 6) (p 7)) 5 ∧ clR p (hearT p (p 5).toNat (p 6) (p 7)) 5 < p 3 ∧ 1 ≤ clR p (hearT p (p 5).toNat (p 6) (p 7)) 6 ∧ clR p (hearT p (p 5).toNat (p 6) (p 7)) 6 < rW p (clR p (hearT p (p 5).toNat (p 6) (p 7)) 5).toNat ∧ 1 ≤ clR p (hearT p (p 5).toNat (p 6) (p 7)) 7 ∧ clR p (hearT p (p 5).toNat (p 6) (p 7)) 7 < rD p (clR p (hearT p (p 5).toNat (p 6) (p 7)) 5).toNat
    rw [n 5 (by decide) (by decide) (by omega), n 6 (by decide) (by decide) (by omega), n 7 (by decide) (by decide) (by omega)]
    exact ⟨hs.1.1, hs.1.2, hs.2.1.1, hs.2.1.2, hs.2.2.1, hs.2.2.2⟩)
theorem r32_wr (x : Int) : r32 (wr x) := by unfold wr r32; exact ⟨by have := @Int.le_bmod x 4294967296 (by decide); omega, by have := @Int.bmod_lt x 4294967296 (by decide); omega⟩
theorem drS_15 {q : Rw} {r : Nat} (hr : r < 5) : r32 (drS q r 15) := by
  unfold drS
  have h4 := dv_m (nxs (nxs (q 15))) 4 (by decide)
  split
  · rw [rup_n (by omega), rup_a]
    exact r32_wr _
  · rw [rup_a]
    exact r32_wr _
theorem drsF_15 {q : Rw} (h : r32 (q 15)) : ∀ n : Nat, n ≤ 5 → r32 (drsF q n 15)
  | 0, _ => h
  | n + 1, hn => drS_15 (q := drsF q n) (by omega)
/-- the same of days: these draw from the seed -/
def rowOKd (p : Rw) (A : aAct) : Prop := match A with
  | .inl q => WF q.2 ∧ (∀ k, (k = 1 ∨ k = 2 ∨ 331 ≤ k) → q.2 k = p k) ∧ (r32 (p 15) → r32 (q.2 15))
  | .inr _ => True
theorem rowOK.d {A : aAct} (h : rowOK p A) : rowOKd p A := by
  cases A with
  | inl q => exact ⟨h.1, fun k hk => h.2 k (by omega), fun hr => by rw [h.2 15 (by omega)]; exact hr⟩
  | inr E => trivial
theorem rowOKd.txt {q : Int × Rw} (h : rowOKd p (.inl q)) (hT : TXT p ls) : TXT q.2 ls := hT.cong (h.2.1 1 (by omega)) (h.2.1 2 (by omega)) (fun k hk => h.2.1 k (by omega))
theorem rowOKd_if {c : Prop} {a b : aAct} (h1 : c → rowOKd p a) (h2 : ¬ c → rowOKd p b) : rowOKd p (sIf c a b) := by
  by_cases h : c
  · rw [sIf_y h]; exact h1 h
  · rw [sIf_n h]; exact h2 h
theorem ro_days (hW : WF p) {n : Int} : rowOKd p (aDays p ls n) := rowOKd_if (fun h => by
  refine ⟨days_WF hW _, fun k hk => ?_, fun hr => ?_⟩
  · show daysR p ls 1 n.toNat k = p k
    have : ∀ m, daysR p ls 1 m k = p k := by
      intro m
      induction m with
      | zero => rfl
      | succ m ih =>
        have hWn := days_WF (ls := ls) (b := 1) hW m
        have h3 := hWn.1
        have h4 := hWn.2.1
        show dayR (daysR p ls 1 m) ls 1 k = p k
        unfold dayR
        show rup _ 12 _ k = p k
        rw [rup_n (by omega), lodsF_n (by omega) _ (by omega), if_neg (by decide), drsF_n (by omega) _ (by omega)]
        exact ih
    exact this _
  · show r32 (daysR p ls 1 n.toNat 15)
    have : ∀ m, r32 (daysR p ls 1 m 15) := by
      intro m
      induction m with
      | zero => exact hr
      | succ m ih =>
        have hWn := days_WF (ls := ls) (b := 1) hW m
        have h3 := hWn.1
        have h4 := hWn.2.1
        show r32 (dayR (daysR p ls 1 m) ls 1 15)
        unfold dayR
        show r32 (rup _ 12 _ 15)
        rw [rup_n (by omega), lodsF_n (by omega) _ (by omega), if_neg (by decide)]
        exact drsF_15 ih _ (by omega)
    exact this _) (fun _ => trivial)
end ROWSOK
