/-! ===== LINES OF THE HOUSE ===== -/
noncomputable def nv (T : TK) (i : Nat) : Int := nmF T.1 T.2.1 T.2.2.1 T.2.2.2 i
def isN (T : TK) (i : Nat) (lo hi : Int) : Prop := ∃ v, kN T i lo hi v
theorem kN_nv {T : TK} {i : Nat} {lo hi v : Int} (h : kN T i lo hi v) : v = nv T i := by
  unfold nv nmF
  rw [if_pos ⟨h.1, h.2.1⟩]
  exact h.2.2.1
theorem isN_b {T : TK} {i : Nat} {lo hi : Int} (h : isN T i lo hi) : lo ≤ nv T i ∧ nv T i ≤ hi := by
  obtain ⟨v, hv⟩ := h
  rw [← kN_nv hv]
  exact ⟨hv.2.2.2.1, hv.2.2.2.2⟩
theorem isN_lt {T : TK} {m N i : Nat} {lo hi : Int} (hT : okT T m N) (hi' : i ≤ N) (h : isN T i lo hi) : i < N := by
  obtain ⟨v, hv⟩ := h
  exact kN_lt hT hi' hv
/-- sorts of walls by their letters -/
def srt (c : Int) : Int := if c = 111 then 0 else if c = 102 then 1 else if c = 99 then 2 else if c = 115 then 3 else if c = 103 then 4 else -1
theorem srt_b (c : Int) : -1 ≤ srt c ∧ srt c ≤ 4 := by
  unfold srt
  (repeat' split) <;> omega
def srv (T : TK) (i k : Nat) : Int := srt (T.1 ((T.2.2.1 i).toNat + k))
def isS (T : TK) (i : Nat) : Prop := T.2.1 i = 1 ∧ T.2.2.2 i - T.2.2.1 i = 4 ∧ ∀ k, k < 4 → srv T i k ≠ -1
theorem isS_lt {T : TK} {m N i : Nat} (hT : okT T m N) (hi' : i ≤ N) (h : isS T i) : i < N := hT.lt hi' (by rw [h.1]; decide)
/-- the row with one more room, with one more tenant -/
def rmR (p : Rw) (w d z : Int) (s : Nat → Int) : Rw := rup (rup (rup (rup (rup (rup (rup (rup p (16 + 7 * (p 3).toNat) w) (17 + 7 * (p 3).toNat) d) (21 + 7 * (p 3).toNat) (s 3)) (20 + 7 * (p 3).toNat) (s 2)) (19 + 7 * (p 3).toNat) (s 1)) (18 + 7 * (p 3).toNat) (s 0)) (22 + 7 * (p 3).toNat) z) 3 (p 3 + 1)
def tnR (p : Rw) (u w l : Int) : Rw := rup (rup (rup (rup p (51 + 3 * (p 4).toNat) u) (52 + 3 * (p 4).toNat) w) (53 + 3 * (p 4).toNat) l) 4 (p 4 + 1)
theorem rm_o {p : Rw} {w d z : Int} {s : Nat → Int} {k : Nat} (h3 : k ≠ 3) (h : k < 16 + 7 * (p 3).toNat ∨ 22 + 7 * (p 3).toNat < k) : rmR p w d z s k = p k := by
  unfold rmR
  rw [rup_n h3, rup_n (by omega), rup_n (by omega), rup_n (by omega), rup_n (by omega), rup_n (by omega), rup_n (by omega), rup_n (by omega)]
theorem rm_n {p : Rw} {w d z : Int} {s : Nat → Int} : rmR p w d z s 3 = p 3 + 1 ∧ rmR p w d z s (16 + 7 * (p 3).toNat) = w ∧ rmR p w d z s (17 + 7 * (p 3).toNat) = d ∧ rmR p w d z s (22 + 7 * (p 3).toNat) = z ∧ ∀ k, k < 4 → rmR p w d z s (18 + 7 * (p 3).toNat + k) = s k := by
  unfold rmR
  refine ⟨rup_a, ?_, ?_, ?_, fun k hk => ?_⟩
  · rw [rup_n (by omega), rup_n (by omega), rup_n (by omega), rup_n (by omega), rup_n (by omega), rup_n (by omega), rup_n (by omega), rup_a]
  · rw [rup_n (by omega), rup_n (by omega), rup_n (by omega), rup_n (by omega), rup_n (by omega), rup_n (by omega), rup_a]
  · rw [rup_n (by omega), rup_a]
  · have : k = 0 ∨ k = 1 ∨ k = 2 ∨ k = 3 := by omega
    rcases this with rfl | rfl | rfl | rfl
    · rw [rup_n (by omega), rup_n (by omega), Nat.add_zero, rup_a]
    · rw [rup_n (by omega), rup_n (by omega), rup_n (by omega), show 18 + 7 * (p 3).toNat + 1 = 19 + 7 * (p 3).toNat by omega, rup_a]
    · rw [rup_n (by omega), rup_n (by omega), rup_n (by omega), rup_n (by omega), show 18 + 7 * (p 3).toNat + 2 = 20 + 7 * (p 3).toNat by omega, rup_a]
    · rw [rup_n (by omega), rup_n (by omega), rup_n (by omega), rup_n (by omega), rup_n (by omega), show 18 + 7 * (p 3).toNat + 3 = 21 + 7 * (p 3).toNat by omega, rup_a]
theorem tn_o {p : Rw} {u w l : Int} {k : Nat} (h4 : k ≠ 4) (h : k < 51 + 3 * (p 4).toNat ∨ 53 + 3 * (p 4).toNat < k) : tnR p u w l k = p k := by
  unfold tnR
  rw [rup_n h4, rup_n (by omega), rup_n (by omega), rup_n (by omega)]
theorem tn_n {p : Rw} {u w l : Int} : tnR p u w l 4 = p 4 + 1 ∧ tnR p u w l (51 + 3 * (p 4).toNat) = u ∧ tnR p u w l (52 + 3 * (p 4).toNat) = w ∧ tnR p u w l (53 + 3 * (p 4).toNat) = l := by
  unfold tnR
  refine ⟨rup_a, ?_, ?_, ?_⟩
  · rw [rup_n (by omega), rup_n (by omega), rup_n (by omega), rup_a]
  · rw [rup_n (by omega), rup_n (by omega), rup_a]
  · rw [rup_n (by omega), rup_a]
section HWF
variable {p : Rw}
theorem WF.rm (hW : WF p) {w d z : Int} {s : Nat → Int} (h3 : p 3 < 5) (hw : 2 ≤ w ∧ w ≤ 12) (hd : 2 ≤ d ∧ d ≤ 12) (hz : 0 ≤ z ∧ z ≤ 99) (hs : ∀ k, k < 4 → 0 ≤ s k ∧ s k ≤ 4) : WF (rmR p w d z s) := by
  have r4 : p 4 ≤ 5 := hW.2.1.2
  have r3 : 0 ≤ p 3 ∧ p 3 ≤ 5 := hW.1
  obtain ⟨g1, g2, g3, g4, g5, g6, g7, g8, g9, g10, g11, g12, g13, g14, g15, g16⟩ := hW
  obtain ⟨n3, nw, nd, nz, ns⟩ := rm_n (p := p) (w := w) (d := d) (z := z) (s := s)
  have o : ∀ k, k ≠ 3 → (k < 16 + 7 * (p 3).toNat ∨ 22 + 7 * (p 3).toNat < k) → rmR p w d z s k = p k := fun k h h' => rm_o h h'
  unfold WF
  rw [n3, o 4 (by omega) (by omega), o 0 (by omega) (by omega), o 1 (by omega) (by omega), o 5 (by omega) (by omega), o 6 (by omega) (by omega), o 7 (by omega) (by omega), o 8 (by omega) (by omega), o 9 (by omega) (by omega), o 10 (by omega) (by omega), o 11 (by omega) (by omega), o 12 (by omega) (by omega), o 13 (by omega) (by omega), o 14 (by omega) (by omega)]
  refine ⟨by omega, g2, g3, g4, g5, g6, g7, g8, g9, g10, g11, fun r hr => ?_, fun t ht => ?_, fun t u ht hu => ?_, fun r q hr hq => ?_, ?_⟩
  · by_cases e : r = (p 3).toNat
    · unfold rW rD rS rR
      subst e
      rw [nw, nd, nz]
      exact ⟨hw, hd, fun k hk => by rw [ns k hk]; exact hs k hk, hz⟩
    · have := g12 r (by omega)
      unfold rW rD rS rR at *
      rw [o _ (by omega) (by omega), o _ (by omega) (by omega), o (22 + 7 * r) (by omega) (by omega)]
      exact ⟨this.1, this.2.1, fun k hk => by rw [o _ (by omega) (by omega)]; exact this.2.2.1 k hk, this.2.2.2⟩
  · have := g13 t ht
    unfold tP_ tW_ tL_ at *
    rw [o _ (by omega) (by omega), o _ (by omega) (by omega), o _ (by omega) (by omega)]
    exact ⟨this.1, this.2.1, this.2.2.1, by omega⟩
  · have := g14 t u ht hu
    unfold tL_ at *
    rw [o _ (by omega) (by omega), o _ (by omega) (by omega)]
    exact this
  · have := g15 r q hr hq
    unfold dO_ at *
    rw [o _ (by omega) (by omega), o _ (by omega) (by omega)]
    exact ⟨this.1, this.2.1, fun h => by have := this.2.2 h; omega⟩
  · rcases g16 with g | ⟨a, b, c⟩
    · exact Or.inl g
    · right
      unfold rW rD at *
      have x1 : rmR p w d z s (16 + 7 * (p 5).toNat) = p (16 + 7 * (p 5).toNat) := o _ (by omega) (by omega)
      have x2 : rmR p w d z s (17 + 7 * (p 5).toNat) = p (17 + 7 * (p 5).toNat) := o _ (by omega) (by omega)
      rw [x1, x2]
      exact ⟨a, by omega, c⟩
theorem WF.tn (hW : WF p) {u w l : Int} (h4 : p 4 < 5) (hu : 0 ≤ u ∧ u ≤ 99) (hw : 0 ≤ w ∧ w ≤ 9) (hl : l = -1 ∨ (0 ≤ l ∧ l < p 3 ∧ hdr p l = -1)) : WF (tnR p u w l) := by
  have r4 : 0 ≤ p 4 ∧ p 4 ≤ 5 := hW.2.1
  have r3 : 0 ≤ p 3 ∧ p 3 ≤ 5 := hW.1
  obtain ⟨g1, g2, g3, g4, g5, g6, g7, g8, g9, g10, g11, g12, g13, g14, g15, g16⟩ := hW
  obtain ⟨n4, nu, nw, nl⟩ := tn_n (p := p) (u := u) (w := w) (l := l)
  have o : ∀ k, k ≠ 4 → (k < 51 + 3 * (p 4).toNat ∨ 53 + 3 * (p 4).toNat < k) → tnR p u w l k = p k := fun k h h' => tn_o h h'
  have free : ∀ t : Nat, (t : Int) < p 4 → l ≠ -1 → tL_ p t ≠ l := by
    intro t ht hne he
    rcases hl with e | ⟨-, -, e⟩
    · exact hne e
    · unfold hdr at e
      rcases fstB_spec (fun t => decide (tL_ p t = l)) (p 4).toNat with ⟨-, y⟩ | ⟨i, x, -⟩
      · have := y t (by omega)
        simp at this
        exact this he
      · omega
  have tl : ∀ t : Nat, (t : Int) < p 4 → tL_ (tnR p u w l) t = tL_ p t := fun t ht => by unfold tL_; exact o _ (by omega) (by omega)
  have tn : ∀ t : Nat, t = (p 4).toNat → tL_ (tnR p u w l) t = l := fun t ht => by unfold tL_; rw [ht]; exact nl
  unfold WF
  rw [n4, o 3 (by omega) (by omega), o 0 (by omega) (by omega), o 1 (by omega) (by omega), o 5 (by omega) (by omega), o 6 (by omega) (by omega), o 7 (by omega) (by omega), o 8 (by omega) (by omega), o 9 (by omega) (by omega), o 10 (by omega) (by omega), o 11 (by omega) (by omega), o 12 (by omega) (by omega), o 13 (by omega) (by omega), o 14 (by omega) (by omega)]
  refine ⟨g1, by omega, g3, g4, g5, g6, g7, g8, g9, g10, g11, fun r hr => ?_, fun t ht => ?_, fun t v ht hv he hne => ?_, fun r q hr hq => ?_, ?_⟩
  · have := g12 r hr
    unfold rW rD rS rR at *
    rw [o _ (by omega) (by omega), o _ (by omega) (by omega), o _ (by omega) (by omega)]
    exact ⟨this.1, this.2.1, fun k hk => by rw [o _ (by omega) (by omega)]; exact this.2.2.1 k hk, this.2.2.2⟩
  · by_cases e : t = (p 4).toNat
    · rw [tn t e]
      unfold tP_ tW_
      rw [e, nu, nw]
      exact ⟨hu, hw, by omega, by omega⟩
    · have := g13 t (by omega)
      rw [tl t (by omega)]
      unfold tP_ tW_ at *
      rw [o _ (by omega) (by omega), o _ (by omega) (by omega)]
      exact this
  · by_cases e1 : t = (p 4).toNat
    · by_cases e2 : v = (p 4).toNat
      · omega
      · rw [tn t e1] at he hne
        rw [tl v (by omega)] at he
        exact absurd he.symm (free v (by omega) hne)
    · by_cases e2 : v = (p 4).toNat
      · rw [tl t (by omega)] at he hne
        rw [tn v e2] at he
        exact absurd he (free t (by omega) (by rw [← he]; exact hne))
      · rw [tl t (by omega)] at he hne
        rw [tl v (by omega)] at he
        exact g14 t v (by omega) (by omega) he hne
  · have := g15 r q hr hq
    unfold dO_ at *
    rw [o _ (by omega) (by omega), o _ (by omega) (by omega)]
    exact this
  · rcases g16 with g | g
    · exact Or.inl g
    · right
      unfold rW rD at *
      have x1 : tnR p u w l (16 + 7 * (p 5).toNat) = p (16 + 7 * (p 5).toNat) := o _ (by omega) (by omega)
      have x2 : tnR p u w l (17 + 7 * (p 5).toNat) = p (17 + 7 * (p 5).toNat) := o _ (by omega) (by omega)
      rw [x1, x2]
      exact g
theorem WF.num (hW : WF p) {k : Nat} {z : Int} (h : (k = 8 ∧ 0 ≤ z ∧ z ≤ 999) ∨ (k = 9 ∧ 0 ≤ z ∧ z ≤ 2) ∨ (k = 10 ∧ 1 ≤ z ∧ z ≤ 3) ∨ (k = 11 ∧ 0 ≤ z ∧ z ≤ 100) ∨ (k = 12 ∧ 0 ≤ z ∧ z ≤ 999)) : WF (rup p k z) := by
  have r4 : 0 ≤ p 4 ∧ p 4 ≤ 5 := hW.2.1
  have r3 : 0 ≤ p 3 ∧ p 3 ≤ 5 := hW.1
  obtain ⟨g1, g2, g3, g4, g5, g6, g7, g8, g9, g10, g11, g12, g13, g14, g15, g16⟩ := hW
  have o : ∀ j, (j < 8 ∨ 12 < j) → rup p k z j = p j := fun j hj => rup_n (by omega)
  have c : ∀ (j : Nat) (a b : Int), (a ≤ p j ∧ p j ≤ b) → (k = j → a ≤ z ∧ z ≤ b) → a ≤ rup p k z j ∧ rup p k z j ≤ b := fun j a b h1 h2 => by
    unfold rup
    by_cases e : j = k
    · rw [if_pos e]; exact h2 e.symm
    · rw [if_neg e]; exact h1
  unfold WF
  rw [o 3 (by omega), o 4 (by omega), o 0 (by omega), o 1 (by omega), o 5 (by omega), o 6 (by omega), o 7 (by omega), o 13 (by omega), o 14 (by omega)]
  refine ⟨g1, g2, c 8 _ _ g3 (by omega), c 9 _ _ g4 (by omega), c 10 _ _ g5 (by omega), c 11 _ _ g6 (by omega), c 12 _ _ g7 (by omega), g8, g9, g10, g11, fun r hr => ?_, fun t ht => ?_, fun t u ht hu => ?_, fun r q hr hq => ?_, ?_⟩
  · have := g12 r hr
    unfold rW rD rS rR at *
    rw [o _ (by omega), o _ (by omega), o _ (by omega)]
    exact ⟨this.1, this.2.1, fun w hw => by rw [o _ (by omega)]; exact this.2.2.1 w hw, this.2.2.2⟩
  · have := g13 t ht
    unfold tP_ tW_ tL_ at *
    rw [o _ (by omega), o _ (by omega), o _ (by omega)]
    exact this
  · have := g14 t u ht hu
    unfold tL_ at *
    rw [o _ (by omega), o _ (by omega)]
    exact this
  · have := g15 r q hr hq
    unfold dO_ at *
    rw [o _ (by omega), o _ (by omega)]
    exact this
  · rcases g16 with g | g
    · exact Or.inl g
    · right
      unfold rW rD at *
      rw [o _ (by omega), o _ (by omega)]
      exact g
end HWF
/-! ===== what a line makes of a row ===== -/
abbrev hRes : Type := Nat × Option Rw
noncomputable def hRent (T : TK) (p : Rw) (w d : Int) (s : Nat → Int) (i : Nat) : hRes := qif (kW T i (wdS 50)) (qif (isN T (i + 1) 0 99) (i + 2, some (rmR p w d (nv T (i + 1)) s)) (i + 1, none)) (i, some (rmR p w d 0 s))
noncomputable def hRoom (T : TK) (p : Rw) (i : Nat) : hRes := qif (isN T i 2 12) (qif (kW T (i + 1) (wdS 56)) (qif (isN T (i + 2) 2 12) (qif (kW T (i + 3) (wdS 57)) (qif (isS T (i + 4)) (hRent T p (nv T i) (nv T (i + 2)) (srv T (i + 4)) (i + 5)) (i + 4, none)) (i + 3, none)) (i + 2, none)) (i + 1, none)) (i, none)
noncomputable def hIn (T : TK) (p : Rw) (u w : Int) (i : Nat) : hRes := qif (kW T i (wdS 60)) (qif (isN T (i + 1) 0 (p 3 - 1) ∧ hdr p (nv T (i + 1)) = -1) (i + 2, some (tnR p u w (nv T (i + 1)))) (i + 1, none)) (i, some (tnR p u w (-1)))
noncomputable def hTen (T : TK) (p : Rw) (i : Nat) : hRes := qif (kW T i (wdS 58)) (qif (isN T (i + 1) 0 99) (qif (kW T (i + 2) (wdS 59)) (qif (isN T (i + 3) 0 9) (hIn T p (nv T (i + 1)) (nv T (i + 3)) (i + 4)) (i + 3, none)) (i + 2, none)) (i + 1, none)) (i, none)
noncomputable def hDoor (T : TK) (p : Rw) (i : Nat) : hRes := qif (isN T i 0 (p 3 - 1)) (qif (isN T (i + 1) 0 (p 3 - 1) ∧ nv T (i + 1) ≠ nv T i) (i + 2, some (drR p (nv T i).toNat (nv T (i + 1)).toNat 1)) (i + 1, none)) (i, none)
noncomputable def hAt (T : TK) (p : Rw) (i : Nat) : hRes := qif (isN T i 0 (p 3 - 1)) (qif (isN T (i + 1) 1 (rW p (nv T i).toNat - 1)) (qif (isN T (i + 2) 1 (rD p (nv T i).toNat - 1)) (i + 3, some (rup (rup (rup p 5 (nv T i)) 6 (nv T (i + 1))) 7 (nv T (i + 2)))) (i + 2, none)) (i + 1, none)) (i, none)
noncomputable def hNum (T : TK) (p : Rw) (k : Nat) (lo hi : Int) (i : Nat) : hRes := qif (isN T i lo hi) (i + 1, some (rup p k (nv T i))) (i, none)
noncomputable def hDeaf (T : TK) (p : Rw) (i : Nat) : hRes := qif (kW T i (wdS 65)) (i + 1, some (rup p 9 1)) (qif (kW T i (wdS 66)) (i + 1, some (rup p 9 2)) (qif (kW T i (wdS 67)) (i + 1, some (rup p 9 0)) (i, none)))
noncomputable def hLine (T : TK) (p : Rw) (i : Nat) : hRes := qif (kW T i (wdS 47)) (qif (p 3 < 5) (hRoom T p (i + 1)) (i, none)) (qif (kW T i (wdS 46)) (qif (p 4 < 5) (hTen T p (i + 1)) (i, none)) (qif (kW T i (wdS 61)) (hDoor T p (i + 1)) (qif (kW T i (wdS 62)) (hAt T p (i + 1)) (qif (kW T i (wdS 63)) (hNum T p 8 0 999 (i + 1)) (qif (kW T i (wdS 64)) (hDeaf T p (i + 1)) (qif (kW T i (wdS 68)) (hNum T p 10 1 3 (i + 1)) (qif (kW T i (wdS 69)) (hNum T p 11 0 100 (i + 1)) (qif (kW T i (wdS 53)) (hNum T p 12 0 999 (i + 1)) (i, none)))))))))
noncomputable def hLs (T : TK) (N : Nat) : Nat → Rw → Nat → hRes
  | 0, _, i => (i, none)
  | n + 1, p, i => match hLine T p i with
    | (e, none) => (e, none)
    | (j, some q) => qif (j = N) (j, some q) (qif (kS T j 59) (hLs T N n q (j + 1)) (j, none))
noncomputable def hHouse (T : TK) (N : Nat) (p : Rw) : hRes := if N = 0 then (0, some p) else hLs T N 14 p 0
def keepR (p q : Rw) : Prop := q 0 = p 0 ∧ q 1 = p 1 ∧ q 2 = p 2 ∧ q 15 = p 15 ∧ ∀ k, 331 ≤ k → q k = p k
def hOK (p : Rw) (N i j : Nat) (q : Rw) : Prop := i ≤ j ∧ j ≤ N ∧ WF q ∧ keepR p q
theorem qOk_if {α : Type} {c : Prop} {a b : Nat × Option α} {S : Nat → α → Prop} {F : Nat → Prop} (h1 : c → qOk a S F) (h2 : ¬ c → qOk b S F) : qOk (qif c a b) S F := by
  by_cases h : c
  · rw [qif_y h]; exact h1 h
  · rw [qif_n h]; exact h2 h
section HOK
variable {T : TK} {m N : Nat} {p : Rw}
theorem kp_rm (hW : WF p) (h3 : p 3 < 5) {w d z : Int} {s : Nat → Int} : keepR p (rmR p w d z s) := by
  have := hW.1
  exact ⟨rm_o (by omega) (by omega), rm_o (by omega) (by omega), rm_o (by omega) (by omega), rm_o (by omega) (by omega), fun k hk => rm_o (by omega) (by omega)⟩
theorem kp_tn (hW : WF p) (h4 : p 4 < 5) {u w l : Int} : keepR p (tnR p u w l) := by
  have := hW.2.1
  exact ⟨tn_o (by omega) (by omega), tn_o (by omega) (by omega), tn_o (by omega) (by omega), tn_o (by omega) (by omega), fun k hk => tn_o (by omega) (by omega)⟩
theorem hRoom_ok (hT : okT T m N) (hW : WF p) {i : Nat} (hi : i ≤ N) (h3 : p 3 < 5) : qOk (hRoom T p i) (hOK p N i) (fun e => e ≤ N) := by
  unfold hRoom
  refine qOk_if (fun h1 => ?_) (fun _ => hi)
  have l1 := isN_lt hT hi h1
  have b1 := isN_b h1
  refine qOk_if (fun h2 => ?_) (fun _ => show i + 1 ≤ N by omega)
  have l2 := kW_lt hT (show i + 1 ≤ N by omega) h2
  refine qOk_if (fun h3' => ?_) (fun _ => show i + 2 ≤ N by omega)
  have l3 := isN_lt hT (show i + 2 ≤ N by omega) h3'
  have b3 := isN_b h3'
  refine qOk_if (fun h4 => ?_) (fun _ => show i + 3 ≤ N by omega)
  have l4 := kW_lt hT (show i + 3 ≤ N by omega) h4
  refine qOk_if (fun h5 => ?_) (fun _ => show i + 4 ≤ N by omega)
  have l5 := isS_lt hT (show i + 4 ≤ N by omega) h5
  have hs : ∀ k, k < 4 → 0 ≤ srv T (i + 4) k ∧ srv T (i + 4) k ≤ 4 := fun k hk => by
    have a := h5.2.2 k hk
    have b := srt_b (T.1 ((T.2.2.1 (i + 4)).toNat + k))
    unfold srv at *
    omega
  unfold hRent
  refine qOk_if (fun h6 => ?_) (fun _ => ⟨show i ≤ i + 5 by omega, show i + 5 ≤ N by omega, hW.rm h3 b1 b3 (by omega) hs, kp_rm hW h3⟩)
  have l6 := kW_lt hT (show i + 5 ≤ N by omega) h6
  refine qOk_if (fun h7 => ?_) (fun _ => show i + 5 + 1 ≤ N by omega)
  have l7 := isN_lt hT (show i + 5 + 1 ≤ N by omega) h7
  exact ⟨show i ≤ i + 5 + 2 by omega, show i + 5 + 2 ≤ N by omega, hW.rm h3 b1 b3 (isN_b h7) hs, kp_rm hW h3⟩
theorem hTen_ok (hT : okT T m N) (hW : WF p) {i : Nat} (hi : i ≤ N) (h3 : p 4 < 5) : qOk (hTen T p i) (hOK p N i) (fun e => e ≤ N) := by
  unfold hTen
  refine qOk_if (fun h1 => ?_) (fun _ => hi)
  have l1 := kW_lt hT hi h1
  refine qOk_if (fun h2 => ?_) (fun _ => show i + 1 ≤ N by omega)
  have l2 := isN_lt hT (show i + 1 ≤ N by omega) h2
  refine qOk_if (fun h3' => ?_) (fun _ => show i + 2 ≤ N by omega)
  have l3 := kW_lt hT (show i + 2 ≤ N by omega) h3'
  refine qOk_if (fun h4 => ?_) (fun _ => show i + 3 ≤ N by omega)
  have l4 := isN_lt hT (show i + 3 ≤ N by omega) h4
  unfold hIn
  refine qOk_if (fun h6 => ?_) (fun _ => ⟨show i ≤ i + 4 by omega, show i + 4 ≤ N by omega, hW.tn h3 (isN_b h2) (isN_b h4) (Or.inl rfl), kp_tn hW h3⟩)
  have l6 := kW_lt hT (show i + 4 ≤ N by omega) h6
  refine qOk_if (fun h7 => ?_) (fun _ => show i + 4 + 1 ≤ N by omega)
  have l7 := isN_lt hT (show i + 4 + 1 ≤ N by omega) h7.1
  have b7 := isN_b h7.1
  exact ⟨show i ≤ i + 4 + 2 by omega, show i + 4 + 2 ≤ N by omega, hW.tn h3 (isN_b h2) (isN_b h4) (Or.inr ⟨b7.1, by omega, h7.2⟩), kp_tn hW h3⟩
theorem hDoor_ok (hT : okT T m N) (hW : WF p) {i : Nat} (hi : i ≤ N) : qOk (hDoor T p i) (hOK p N i) (fun e => e ≤ N) := by
  have h3 := hW.1
  unfold hDoor
  refine qOk_if (fun h1 => ?_) (fun _ => hi)
  have l1 := isN_lt hT hi h1
  have b1 := isN_b h1
  refine qOk_if (fun h2 => ?_) (fun _ => show i + 1 ≤ N by omega)
  have l2 := isN_lt hT (show i + 1 ≤ N by omega) h2.1
  have b2 := isN_b h2.1
  have hne := h2.2
  refine ⟨show i ≤ i + 2 by omega, show i + 2 ≤ N by omega, hW.doorz (by omega) (by omega) (by omega) (Or.inr rfl), ?_⟩
  unfold drR
  exact ⟨by rw [rup_n (by omega), rup_n (by omega)], by rw [rup_n (by omega), rup_n (by omega)], by rw [rup_n (by omega), rup_n (by omega)], by rw [rup_n (by omega), rup_n (by omega)], fun k hk => by rw [rup_n (by omega), rup_n (by omega)]⟩
theorem hAt_ok (hT : okT T m N) (hW : WF p) {i : Nat} (hi : i ≤ N) : qOk (hAt T p i) (hOK p N i) (fun e => e ≤ N) := by
  have h3 := hW.1
  unfold hAt
  refine qOk_if (fun h1 => ?_) (fun _ => hi)
  have l1 := isN_lt hT hi h1
  have b1 := isN_b h1
  refine qOk_if (fun h2 => ?_) (fun _ => show i + 1 ≤ N by omega)
  have l2 := isN_lt hT (show i + 1 ≤ N by omega) h2
  have b2 := isN_b h2
  refine qOk_if (fun h4 => ?_) (fun _ => show i + 2 ≤ N by omega)
  have l4 := isN_lt hT (show i + 2 ≤ N by omega) h4
  have b4 := isN_b h4
  refine ⟨show i ≤ i + 3 by omega, show i + 3 ≤ N by omega, seat_WF hW ⟨⟨by omega, by omega⟩, ⟨by omega, by omega⟩, by omega, by omega⟩, ?_⟩
  exact ⟨by rw [rup_n (by omega), rup_n (by omega), rup_n (by omega)], by rw [rup_n (by omega), rup_n (by omega), rup_n (by omega)], by rw [rup_n (by omega), rup_n (by omega), rup_n (by omega)], by rw [rup_n (by omega), rup_n (by omega), rup_n (by omega)], fun k hk => by rw [rup_n (by omega), rup_n (by omega), rup_n (by omega)]⟩
theorem kp_num {k : Nat} {z : Int} (hk : 8 ≤ k ∧ k ≤ 12) : keepR p (rup p k z) := ⟨rup_n (by omega), rup_n (by omega), rup_n (by omega), rup_n (by omega), fun j hj => rup_n (by omega)⟩
theorem hNum_ok (hT : okT T m N) (hW : WF p) {i k : Nat} {lo hi : Int} (hi' : i ≤ N) (h : (k = 8 ∧ lo = 0 ∧ hi = 999) ∨ (k = 10 ∧ lo = 1 ∧ hi = 3) ∨ (k = 11 ∧ lo = 0 ∧ hi = 100) ∨ (k = 12 ∧ lo = 0 ∧ hi = 999)) : qOk (hNum T p k lo hi i) (hOK p N i) (fun e => e ≤ N) := by
  unfold hNum
  refine qOk_if (fun h1 => ?_) (fun _ => hi')
  have l1 := isN_lt hT hi' h1
  have b1 := isN_b h1
  exact ⟨show i ≤ i + 1 by omega, show i + 1 ≤ N by omega, hW.num (by omega), kp_num (by omega)⟩
theorem hDeaf_ok (hT : okT T m N) (hW : WF p) {i : Nat} (hi : i ≤ N) : qOk (hDeaf T p i) (hOK p N i) (fun e => e ≤ N) := by
  unfold hDeaf
  refine qOk_if (fun h1 => ?_) (fun _ => qOk_if (fun h1 => ?_) (fun _ => qOk_if (fun h1 => ?_) (fun _ => hi)))
  all_goals have l1 := kW_lt hT hi h1
  all_goals exact ⟨show i ≤ i + 1 by omega, show i + 1 ≤ N by omega, hW.num (by omega), kp_num (by omega)⟩
theorem hLine_ok (hT : okT T m N) (hW : WF p) {i : Nat} (hi : i ≤ N) : qOk (hLine T p i) (hOK p N (i + 1)) (fun e => e ≤ N) := by
  unfold hLine
  refine qOk_if (fun h => qOk_if (fun h3 => hRoom_ok hT hW (kW_lt hT hi h) h3) (fun _ => hi)) (fun _ => ?_)
  refine qOk_if (fun h => qOk_if (fun h3 => hTen_ok hT hW (kW_lt hT hi h) h3) (fun _ => hi)) (fun _ => ?_)
  refine qOk_if (fun h => hDoor_ok hT hW (kW_lt hT hi h)) (fun _ => ?_)
  refine qOk_if (fun h => hAt_ok hT hW (kW_lt hT hi h)) (fun _ => ?_)
  refine qOk_if (fun h => hNum_ok hT hW (kW_lt hT hi h) (by omega)) (fun _ => ?_)
  refine qOk_if (fun h => hDeaf_ok hT hW (kW_lt hT hi h)) (fun _ => ?_)
  refine qOk_if (fun h => hNum_ok hT hW (kW_lt hT hi h) (by omega)) (fun _ => ?_)
  refine qOk_if (fun h => hNum_ok hT hW (kW_lt hT hi h) (by omega)) (fun _ => ?_)
  exact qOk_if (fun h => hNum_ok hT hW (kW_lt hT hi h) (by omega)) (fun _ => hi)
theorem keepR.rf : keepR p p := ⟨rfl, rfl, rfl, rfl, fun _ _ => rfl⟩
theorem keepR.tr {p q r : Rw} (h : keepR p q) (h' : keepR q r) : keepR p r := ⟨h'.1.trans h.1, h'.2.1.trans h.2.1, h'.2.2.1.trans h.2.2.1, h'.2.2.2.1.trans h.2.2.2.1, fun k hk => (h'.2.2.2.2 k hk).trans (h.2.2.2.2 k hk)⟩
theorem hLs_ok (hT : okT T m N) : ∀ (n : Nat) {p : Rw} {i : Nat}, WF p → i ≤ N → qOk (hLs T N n p i) (fun j q => j = N ∧ WF q ∧ keepR p q) (fun e => e ≤ N)
  | 0, _, _, _, hi => hi
  | n + 1, p, i, hW, hi => by
    unfold hLs
    have h1 := hLine_ok hT hW hi
    obtain ⟨⟨j, o⟩, hr⟩ : ∃ r, r = hLine T p i := ⟨_, rfl⟩
    rw [← hr] at h1 ⊢
    cases o with
    | none => exact h1
    | some q =>
      obtain ⟨a1, a2, a3, a4⟩ := h1
      refine qOk_if (fun e => ⟨e, a3, a4⟩) (fun e => qOk_if (fun hs => ?_) (fun _ => a2))
      exact qOk_mono (fun j' q' _ h => ⟨h.1, h.2.1, a4.tr h.2.2⟩) (fun _ _ h => h) (hLs_ok hT n (p := q) (i := j + 1) a3 (kS_lt hT a2 hs))
theorem hHouse_ok (hT : okT T m N) (hW : WF p) : qOk (hHouse T N p) (fun j q => j = N ∧ WF q ∧ keepR p q) (fun e => e ≤ N) := by
  unfold hHouse
  by_cases h : N = 0
  · rw [if_pos h]; exact ⟨h.symm, hW, keepR.rf⟩
  · rw [if_neg h]; exact hLs_ok hT 14 hW (Nat.zero_le N)
end HOK
