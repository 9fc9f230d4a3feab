/-! ===== WHAT HOLDS AT EVERY TURN OF THE LAW'S LOOP ===== -/
theorem LO.mov {V V' : xF} {D D' : yD} {L : Nat} {ls : List Ln} {N : Nat} (h : LO V D L ls) (hL : L = 71 ∨ 421 ≤ L ∧ L + 5 ≤ N) (hV : ∀ a, a = 71 ∨ 421 ≤ a ∧ a < N → V' a = V a) (hK : ∀ a, 421 ≤ a → a < N → D'.2.2.1 a = D.2.2.1 a) : LO V' D' L ls := by
  obtain ⟨h1, h2, h3, h4, h5, h6⟩ := h
  rcases hL with hL | ⟨hL, hN⟩
  · subst hL
    refine ⟨h1, ?_, h3, h4, h5, ?_⟩
    · rw [yK_lt _ (by decide) (by decide)]
      rw [yK_lt _ (by decide) (by decide)] at h2
      exact h2
    · rcases h6 with ⟨_, g, e⟩ | ⟨g, _⟩
      · exact Or.inl ⟨rfl, by rw [hV 71 (Or.inl rfl)]; exact g, e⟩
      · exact absurd g (by decide)
  · rw [yK_ge hL] at h2
    have k2 : (D'.2.2.1 L).1 = 3 := by rw [hK L hL (by omega)]; exact h2
    refine ⟨h1, by rw [yK_ge hL]; exact k2, h3, h4, h5, ?_⟩
    rcases h6 with ⟨e, _, _⟩ | ⟨_, g⟩
    · omega
    · refine Or.inr ⟨hL, ?_⟩
      have r : ∀ j, 1 ≤ j → j ≤ 4 → yR D.2.1 D.2.2.1 L j = L + j := fun j g1 g2 => by rw [yR_ge hL, if_pos ⟨h2, g1, g2⟩]
      have r' : ∀ j, 1 ≤ j → j ≤ 4 → yR D'.2.1 D'.2.2.1 L j = L + j := fun j g1 g2 => by rw [yR_ge hL, if_pos ⟨k2, g1, g2⟩]
      have kk : ∀ j, 1 ≤ j → j ≤ 4 → yK D'.2.2.1 (L + j) = yK D.2.2.1 (L + j) := fun j g1 g2 => by rw [yK_ge (by omega), yK_ge (by omega), hK (L + j) (by omega) (by omega)]
      unfold LRows AR at g ⊢
      rw [r 1 (by omega) (by omega), r 2 (by omega) (by omega), r 3 (by omega) (by omega), r 4 (by omega) (by omega)] at g
      rw [r' 1 (by omega) (by omega), r' 2 (by omega) (by omega), r' 3 (by omega) (by omega), r' 4 (by omega) (by omega), kk 1 (by omega) (by omega), kk 2 (by omega) (by omega), kk 3 (by omega) (by omega), kk 4 (by omega) (by omega), hV L (by omega), hV (L + 1) (by omega), hV (L + 2) (by omega), hV (L + 3) (by omega), hV (L + 4) (by omega)]
      exact g
/-- the law of a State's object, and its row's text -/
def LawI (V : xF) (D : yD) (s : Nat) (p : Rw) (ls : List Ln) : Prop := LO V D (D.2.1 s) ls ∧ TXT p ls ∧ V (D.2.1 s) 0 = p 1 ∧ (D.2.1 s = 71 ∨ 421 ≤ D.2.1 s ∧ D.2.1 s + 5 ≤ D.2.2.2.1)
theorem LawI.mov {V V' : xF} {D D' : yD} {s s' : Nat} {p p' : Rw} {ls : List Ln} (h : LawI V D s p ls) (h1 : D'.2.1 s' = D.2.1 s) (hV : ∀ a, a = 71 ∨ 421 ≤ a ∧ a < D.2.2.2.1 → V' a = V a) (hK : ∀ a, 421 ≤ a → a < D.2.2.2.1 → D'.2.2.1 a = D.2.2.1 a) (hN : D.2.2.2.1 ≤ D'.2.2.2.1) (hp : p' 1 = p 1) (hT : TXT p ls → TXT p' ls) : LawI V' D' s' p' ls := by
  obtain ⟨g1, g2, g3, g4⟩ := h
  unfold LawI
  rw [h1]
  refine ⟨g1.mov g4 hV hK, hT g2, ?_, by omega⟩
  rw [hp, ← g3, hV _ (by omega)]
def KepI (V : xF) (D : yD) : Prop := V 405 3 ≠ 0 → St V 103 (V 407) ∧ WF (V 407) ∧ r32 (V 407 15) ∧ ∃ ls, LawI V D 103 (V 407) ls
theorem KepI.mov {V V' : xF} {D D' : yD} (h : KepI V D) (h3 : V' 405 3 = V 405 3) (h103 : ∀ k, k ≤ 10 → V' (103 + k) = V (103 + k)) (h407 : V' 407 = V 407) (h1 : D'.2.1 103 = D.2.1 103) (hV : ∀ a, a = 71 ∨ 421 ≤ a ∧ a < D.2.2.2.1 → V' a = V a) (hK : ∀ a, 421 ≤ a → a < D.2.2.2.1 → D'.2.2.1 a = D.2.2.1 a) (hN : D.2.2.2.1 ≤ D'.2.2.2.1) : KepI V' D' := by
  intro hk
  rw [h3] at hk
  obtain ⟨g1, g2, g3, ls, g4⟩ := h hk
  rw [h407]
  exact ⟨g1.keep h103, g2, g3, ls, g4.mov h1 hV hK hN rfl id⟩
theorem PastR.mov {V V' : xF} {D D' : yD} (h : PastR V D) (h7 : V' 70 7 = V 70 7) (h8 : V' 70 8 = V 70 8) (h6 : V' 405 6 = V 405 6) (hS : ∀ a, 115 ≤ a → a ≤ 246 → V' a = V a) (h9 : V' 409 = V 409) (e1 : V' 406 1 = V 406 1) (e2 : V' 406 2 = V 406 2) (hD : ∀ a, a = 81 ∨ 115 ≤ a ∧ a ≤ 246 → D'.2.1 a = D.2.1 a) : PastR V' D' := by
  obtain ⟨g1, g2, g3, g4⟩ := h
  unfold PastR
  rw [h7, h8, h6]
  refine ⟨g1, g2, g3, fun j hj => ?_⟩
  obtain ⟨a1, a2, a3, a4, a5, a6⟩ := g4 j hj
  have hlt : pix (V 70 7).toNat (V 70 8).toNat j < 12 := Nat.mod_lt _ (by omega)
  have er : arow V' j = arow V j := by unfold arow; rw [h9]
  rw [er, e1, e2, hD _ (Or.inr ⟨by omega, by omega⟩), hD 81 (Or.inl rfl)]
  exact ⟨a1.keep fun k hk => hS _ (by omega) (by omega), a2, a3, a4, a5, a6⟩
theorem PastR.nil {V : xF} {D : yD} (h7 : 0 ≤ V 70 7 ∧ V 70 7 ≤ 11) (h8 : V 70 8 = 0) (h6 : V 405 6 = 0) : PastR V D := by
  unfold PastR
  rw [h8, h6]
  exact ⟨rfl, ⟨by decide, by decide⟩, h7, fun j hj => by omega⟩
/-- the script, k calls of it done -/
def Inv (S : Nat → Int) (L : Nat) (V : xF) (D : yD) (k : Nat) (b : Nat → Int) (n : Int) (ls : List Ln) : Prop :=
  Tp V b n ∧ (V 2 = xback5 ∧ Ws V ∧ Bv V) ∧ (St V 81 (V 406) ∧ WF (V 406) ∧ r32 (V 406 15)) ∧ LawI V D 81 (V 406) ls ∧ PastR V D ∧ (V 70 1 = V 405 12 ∧ V 70 5 = V 405 3) ∧ (D.2.1 103 ≠ 0 ∧ KepI V D) ∧ (421 ≤ D.2.2.2.1 ∧ D.2.2.2.2.1 ≤ 2000 + 10 * k ∧ D.2.2.2.2.2 ≤ 200000 + 1000 * k) ∧ V 1 = S ∧ D.2.2.1 1 = (21, L)
section INV
variable {S : Nat → Int} {L : Nat} {V V' : xF} {D D' : yD} {k : Nat} {b : Nat → Int} {n : Int} {ls : List Ln}
theorem Inv.tp (h : Inv S L V D k b n ls) : Tp V b n := h.1
theorem Inv.v2 (h : Inv S L V D k b n ls) : V 2 = xback5 := h.2.1.1
theorem Inv.ws (h : Inv S L V D k b n ls) : Ws V := h.2.1.2.1
theorem Inv.bv (h : Inv S L V D k b n ls) : Bv V := h.2.1.2.2
theorem Inv.st (h : Inv S L V D k b n ls) : St V 81 (V 406) := h.2.2.1.1
theorem Inv.wf (h : Inv S L V D k b n ls) : WF (V 406) := h.2.2.1.2.1
theorem Inv.r15 (h : Inv S L V D k b n ls) : r32 (V 406 15) := h.2.2.1.2.2
theorem Inv.law (h : Inv S L V D k b n ls) : LawI V D 81 (V 406) ls := h.2.2.2.1
theorem Inv.lo (h : Inv S L V D k b n ls) : LO V D (D.2.1 81) ls := h.law.1
theorem Inv.past (h : Inv S L V D k b n ls) : PastR V D := h.2.2.2.2.1
theorem Inv.fl (h : Inv S L V D k b n ls) : V 70 1 = V 405 12 ∧ V 70 5 = V 405 3 := h.2.2.2.2.2.1
theorem Inv.l103 (h : Inv S L V D k b n ls) : D.2.1 103 ≠ 0 := h.2.2.2.2.2.2.1.1
theorem Inv.kep (h : Inv S L V D k b n ls) : KepI V D := h.2.2.2.2.2.2.1.2
theorem Inv.ct (h : Inv S L V D k b n ls) : 421 ≤ D.2.2.2.1 ∧ D.2.2.2.2.1 ≤ 2000 + 10 * k ∧ D.2.2.2.2.2 ≤ 200000 + 1000 * k := h.2.2.2.2.2.2.2.1
theorem Inv.v1 (h : Inv S L V D k b n ls) : V 1 = S := h.2.2.2.2.2.2.2.2.1
theorem Inv.k1 (h : Inv S L V D k b n ls) : D.2.2.1 1 = (21, L) := h.2.2.2.2.2.2.2.2.2
theorem Inv.l81 (h : Inv S L V D k b n ls) : D.2.1 81 ≠ 0 := h.lo.1
theorem Inv.mc (h : Inv S L V D k b n ls) : MC V (V 406) ls := ⟨rfl, h.wf, h.law.2.1, h.ws⟩
theorem Inv.pn (h : Inv S L V D k b n ls) : PNx V D := ⟨h.past.2.2.1, h.past.2.1, h.l81⟩
theorem Inv.hl (h : Inv S L V D k b n ls) : D.2.1 81 ≠ 0 ∧ (yK D.2.2.1 (D.2.1 81)).1 = 3 ∧ V (D.2.1 81) 0 = V 406 1 := ⟨h.l81, h.lo.2.1, h.law.2.2.1⟩
theorem coreT {a : Nat} (h : coreA a = true → V' a = V a) (h2 : coreA a = true) : V' a = V a := h h2
theorem core_lt {a : Nat} (h : a < 76) : coreA a = true := by unfold coreA; rw [show Nat.blt a 76 = true from Nat.ble_eq_true_of_le h]; rfl
theorem core_ge {a : Nat} (h : 421 ≤ a) : coreA a = true := by unfold coreA; rw [show Nat.ble 421 a = true from Nat.ble_eq_true_of_le h]; exact Bool.or_true _
theorem core_l {a N : Nat} (h : a = 71 ∨ 421 ≤ a ∧ a < N) : coreA a = true := by
  rcases h with e | ⟨g, _⟩
  · rw [e]; rfl
  · exact core_ge g
theorem core_s {a : Nat} (h : 81 ≤ a ∧ a ≤ 91 ∨ 103 ≤ a ∧ a ≤ 246) : coreA a = true := by
  unfold coreA
  rcases h with h | h
  · rw [show Nat.ble 81 a = true from Nat.ble_eq_true_of_le h.1, show Nat.ble a 91 = true from Nat.ble_eq_true_of_le h.2]
    simp
  · rw [show Nat.ble 103 a = true from Nat.ble_eq_true_of_le h.1, show Nat.ble a 246 = true from Nat.ble_eq_true_of_le h.2]
    simp
theorem Ws.mov (h : Ws V) (hV : ∀ a, a < 70 → V' a = V a) : Ws V' := fun a g1 g2 j => by rw [hV a g2]; exact h a g1 g2 j
theorem Tp.mov (h : Tp V b n) (h77 : V' 77 = V 77) (h410 : V' 410 = V 410) (h76 : V' 76 1 = V 76 1) (h8 : V' 405 8 = V 405 8) : Tp V' b n := by
  unfold Tp
  rw [h77, h410, h76, h8]
  exact h
theorem Tp.nil (h : Tp V b n) (h77 : V' 77 = V 77) (h410 : V' 410 = V 410) (h76 : V' 76 1 = 0) (h8 : V' 405 8 = 0) : Tp V' b 0 := by
  unfold Tp
  rw [h77, h410, h76, h8]
  exact ⟨h.1, h.2.1, h.2.2.1, rfl, rfl, by decide, by decide⟩
/-- nothing that counts has changed -/
theorem Inv.same {n' : Int} (h : Inv S L V D k b n ls) {b' : Nat → Int} (hT : Tp V' b' n') (hc : ∀ a, coreA a = true → a ≠ 77 → a ≠ 410 → V' a = V a) (h3 : V' 405 3 = V 405 3) (h6 : V' 405 6 = V 405 6) (h12 : V' 405 12 = V 405 12) (hB : Bv V') (hD : CorD D D') : Inv S L V' D' (k + 1) b' n' ls := by
  obtain ⟨d1, d2, d3, d4, d5⟩ := hD
  have hlo : ∀ a, a = 71 ∨ 421 ≤ a ∧ a < D.2.2.2.1 → V' a = V a := fun a ha => hc a (core_l ha) (by omega) (by omega)
  have hK : ∀ a, 421 ≤ a → a < D.2.2.2.1 → D'.2.2.1 a = D.2.2.1 a := fun a _ _ => by rw [d2]
  have hN : D.2.2.2.1 ≤ D'.2.2.2.1 := by omega
  have e406 := hc 406 rfl (by decide) (by decide)
  have hct := h.ct
  refine ⟨hT, ⟨by rw [hc 2 rfl (by decide) (by decide)]; exact h.v2, h.ws.mov fun a ha => hc a (core_lt (by omega)) (by omega) (by omega), hB⟩, ?_, ?_, ?_, ?_, ⟨by rw [d1 103 (by decide)]; exact h.l103, ?_⟩, ⟨by omega, by omega, by omega⟩, by rw [hc 1 rfl (by decide) (by decide)]; exact h.v1, by rw [d2]; exact h.k1⟩
  · rw [e406]
    exact ⟨h.st.keep fun i hi => hc _ (core_s (by omega)) (by omega) (by omega), h.wf, h.r15⟩
  · rw [e406]
    exact h.law.mov (d1 81 (by decide)) hlo hK hN rfl id
  · exact h.past.mov (by rw [hc 70 rfl (by decide) (by decide)]) (by rw [hc 70 rfl (by decide) (by decide)]) h6 (fun a g1 g2 => hc a (core_s (by omega)) (by omega) (by omega)) (hc 409 rfl (by decide) (by decide)) (by rw [e406]) (by rw [e406]) (fun a ha => d1 a (by omega))
  · rw [hc 70 rfl (by decide) (by decide), h12, h3]
    exact h.fl
  · exact h.kep.mov h3 (fun i hi => hc _ (core_s (by omega)) (by omega) (by omega)) (hc 407 rfl (by decide) (by decide)) (d1 103 (by decide)) hlo hK hN
theorem Inv.cor (h : Inv S L V D k b n ls) (hC : Cor V V') (hD : CorD D D') : Inv S L V' D' (k + 1) b n ls :=
  h.same (h.tp.mov (hC.1 77 rfl) (hC.1 410 rfl) hC.2.2.2.2.2.1 hC.2.2.2.1) (fun a ha _ _ => hC.1 a ha) hC.2.1 hC.2.2.1 hC.2.2.2.2.1 (hC.2.2.2.2.2.2 h.bv) hD
/-- the tape is emptied on both sides -/
theorem Inv.tape {V1 : xF} (h : Inv S L V D k b n ls) (hC : Cor (up2 V 76 1 0) V1) (hD : CorD D D') (hM : Cor (up2 V1 405 8 0) V') : Inv S L V' D' (k + 1) b 0 ls := by
  have hb : Bv V1 := hC.2.2.2.2.2.2 (by unfold Bv; rw [up2_na (by decide)]; exact h.bv)
  have c : ∀ a, coreA a = true → V' a = V a := fun a ha => by
    have h1 : a ≠ 405 := fun e => by rw [e] at ha; exact absurd ha (by decide)
    have h2 : a ≠ 76 := fun e => by rw [e] at ha; exact absurd ha (by decide)
    rw [hM.1 a ha, up2_na h1, hC.1 a ha, up2_na h2]
  have q : ∀ j, j = 3 ∨ j = 6 ∨ j = 12 → V1 405 j = V 405 j := fun j hj => by
    have e : ∀ i, up2 V 76 1 0 405 i = V 405 i := fun i => by rw [up2_na (by decide)]
    rcases hj with e1 | e1 | e1 <;> subst e1
    · rw [hC.2.1, e]
    · rw [hC.2.2.1, e]
    · rw [hC.2.2.2.2.1, e]
  refine h.same (h.tp.nil (c 77 rfl) (c 410 rfl) ?_ ?_) (fun a ha _ _ => c a ha) ?_ ?_ ?_ (hM.2.2.2.2.2.2 ?_) hD
  · rw [hM.2.2.2.2.2.1, up2_na (by decide), hC.2.2.2.2.2.1, up2_at]
  · rw [hM.2.2.2.1, up2_at]
  · rw [hM.2.1, up2_ni (by decide), q 3 (by omega)]
  · rw [hM.2.2.1, up2_ni (by decide), q 6 (by omega)]
  · rw [hM.2.2.2.2.1, up2_ni (by decide), q 12 (by omega)]
  · unfold Bv
    rw [up2_ni (by decide), up2_ni (by decide)]
    exact hb
/-- an act on both sides -/
theorem Inv.act {V1 V2 : xF} {a : Nat} {A : aAct} (h : Inv S L V D k b n ls) (h6 : V1 405 6 = (a : Int)) (hC : EndC A V D V1 D') (hM : EndM A a V1 V2) (hR : rowOKd (V 406) A) : Inv S L V2 D' (k + 1) b n ls := by
  cases A with
  | inr E =>
    have hC : Cor V V1 ∧ CorD D D' := hC
    have hM : Cor V1 V2 := hM
    exact h.cor (hC.1.tr hM) hC.2
  | inl q =>
    have hC : ActC V D V1 D' q.2 := hC
    have hM : ActM V1 V2 a q.2 := hM
    have hT := hR.txt h.law.2.1
    have hR : WF q.2 ∧ (∀ k, (k = 1 ∨ k = 2 ∨ 331 ≤ k) → q.2 k = V 406 k) ∧ (r32 (V 406 15) → r32 (q.2 15)) := hR
    obtain ⟨nx, a', W, hnx, ha', e7, e8, ⟨U, hU, hW⟩, c1, c2, c3, c4, c5⟩ := hC
    obtain ⟨Va, Vb, m1, m2, ⟨m3, m4, m5, m6⟩, m7, m8, m9, m10, m11⟩ := hM
    obtain ⟨r1, r2, r3, r4, r5, r6⟩ := id m2
    obtain ⟨d1, d2, d3, d4, d5⟩ := c5
    -- the class's room behind its act
    have w : ∀ x, x ≠ 70 → W x = U x := fun x hx => by rw [hW, up2_na hx, up2_na hx]
    have u : ∀ x, x < 115 + 11 * nx ∨ 115 + 11 * nx + 10 < x → U x = V x := hU.2
    have v1 : ∀ x, coreA x = true → x ≠ 70 → ¬ (81 ≤ x ∧ x ≤ 91) → (x < 115 + 11 * nx ∨ 115 + 11 * nx + 10 < x) → V1 x = V x := fun x g1 g2 g3 g4 => by rw [c1 x g1 g3, w x g2, u x g4]
    have q1 : V1 405 = V 405 := by rw [c2, w 405 (by decide), u 405 (by omega)]
    have eN : D'.2.2.2.1 = D.2.2.2.1 := d3
    have d4 : D'.2.2.2.2.1 ≤ D.2.2.2.2.1 + 1 := d4
    have d5 : D'.2.2.2.2.2 ≤ D.2.2.2.2.2 + 6 := d5
    have eK : D'.2.2.1 = D.2.2.1 := d2
    have eL : ∀ x, x ≠ 92 → x ≠ 115 + 11 * nx → D'.2.1 x = D.2.1 x := fun x g1 g2 => by
      rw [d1 x g1]
      show up1 D.2.1 (115 + 11 * nx) (D.2.1 81) x = _
      rw [up1_n g2]
    have a6 : (a : Int) = V 405 6 := by rw [← h6, q1]
    have a8 : a' = a := by
      have := h.past.1
      omega
    -- the model's
    have vb : ∀ x, coreA x = true → x ≠ 409 → Vb x = V1 x := fun x g1 g2 => by
      have g3 : x ≠ 405 := fun e => by rw [e] at g1; exact absurd g1 (by decide)
      rw [r3 x (by simp; omega), m1.1 x g1]
    have v2 : ∀ x, coreA x = true → x ≠ 406 → x ≠ 409 → V2 x = V1 x := fun x g1 g2 g3 => by rw [m7 x g1 g2, vb x g1 g3]
    have f406 : V1 406 = V 406 := v1 406 rfl (by decide) (by omega) (by omega)
    have g406 : Vb 406 = V 406 := by rw [vb 406 rfl (by decide), f406]
    have row : ∀ j, V2 406 j = q.2 j := fun j => by
      by_cases hj : j < 331
      · exact m9 j hj
      · rw [m10 j (by omega), g406]
        exact (hR.2.1 j (by omega)).symm
    have e406 : V2 406 = q.2 := funext row
    have hlo : ∀ x, x = 71 ∨ 421 ≤ x ∧ x < D.2.2.2.1 → V2 x = V x := fun x hx => by
      have hc : coreA x = true := core_l hx
      rw [v2 x hc (by omega) (by omega), v1 x hc (by omega) (by omega) (by omega)]
    have hK : ∀ x, 421 ≤ x → x < D.2.2.2.1 → D'.2.2.1 x = D.2.2.1 x := fun x _ _ => by rw [eK]
    have lo : ∀ x, x < 70 → V2 x = V x := fun x hx => by
      have hc := core_lt (show x < 76 by omega)
      rw [v2 x hc (by omega) (by omega), v1 x hc (by omega) (by omega) (by omega)]
    have s70 : V2 70 = W 70 := by rw [v2 70 rfl (by decide) (by decide), c1 70 rfl (by omega)]
    have w70 : ∀ j, j ≠ 7 → j ≠ 8 → W 70 j = V 70 j := fun j g1 g2 => by rw [hW, up2_ni g2, up2_ni g1, u 70 (by omega)]
    have b405 : ∀ j, j = 3 ∨ j = 8 ∨ j = 12 → V2 405 j = V 405 j := fun j hj => by
      rcases hj with e | e | e <;> subst e
      · rw [m3, r2 3 (by decide), m1.2.1, q1]
      · rw [m5, r2 8 (by decide), m1.2.2.2.1, q1]
      · rw [m6, r2 12 (by decide), m1.2.2.2.2.1, q1]
    obtain ⟨V3, hV3⟩ : ∃ V3 : xF, V3 = fun x j => if x = 405 then (if j = 6 then Vb 405 6 else W 405 j) else if x = 409 then Vb 409 j else W x j := ⟨_, rfl⟩
    have t405 : ∀ j, V3 405 j = if j = 6 then Vb 405 6 else W 405 j := fun j => by rw [hV3]; exact if_pos rfl
    have t409 : V3 409 = Vb 409 := by
      rw [hV3]
      funext j
      show (if (409 : Nat) = 405 then _ else if (409 : Nat) = 409 then Vb 409 j else _) = _
      rw [if_neg (by decide), if_pos rfl]
    have t : ∀ x, x ≠ 405 → x ≠ 409 → V3 x = W x := fun x g1 g2 => by
      rw [hV3]
      funext j
      show (if x = 405 then _ else if x = 409 then _ else W x j) = _
      rw [if_neg g1, if_neg g2]
    have va : ∀ x, coreA x = true → ¬ (81 ≤ x ∧ x ≤ 91) → Va x = W x := fun x g1 g2 => by rw [m1.1 x g1, c1 x g1 g2]
    have hRm : Remd W V3 a := by
      refine ⟨by rw [t405, if_pos rfl]; exact r1, fun j hj => by rw [t405, if_neg hj], fun x hx => t x (fun e => hx (by rw [e]; decide)) (fun e => hx (by rw [e]; decide)), fun j hj => ?_, fun g j hj => ?_, fun g j hj => ?_⟩
      · rw [t409, r4 j hj, va 406 rfl (by omega)]
      · rw [t409, r5 g j hj, va 409 rfl (by omega)]
      · rw [t409, r6 g j hj, va 409 rfl (by omega)]
    have hct := h.ct
    refine ⟨h.tp.mov ?_ ?_ ?_ (b405 8 (by omega)), ⟨by rw [lo 2 (by decide)]; exact h.v2, h.ws.mov lo, ?_⟩, ?_, ?_, ?_, ?_, ⟨by rw [eL 103 (by decide) (by omega)]; exact h.l103, ?_⟩, ⟨by omega, by omega, by omega⟩, by rw [lo 1 (by decide)]; exact h.v1, by rw [eK]; exact h.k1⟩
    · rw [v2 77 rfl (by decide) (by decide), v1 77 rfl (by decide) (by omega) (by omega)]
    · rw [v2 410 rfl (by decide) (by decide), v1 410 rfl (by decide) (by omega) (by omega)]
    · rw [m8, r3 76 (by decide), m1.2.2.2.2.2.1, c3, w 76 (by decide), u 76 (by omega)]
    · refine m11 ?_
      have hb1 : Bv V1 := by unfold Bv; rw [q1]; exact h.bv
      have hba := m1.2.2.2.2.2.2 hb1
      unfold Bv
      rw [r2 15 (by decide), r2 16 (by decide)]
      exact hba
    · rw [e406]
      refine ⟨c4.keep fun i hi => ?_, hR.1, hR.2.2 h.r15⟩
      rw [v2 _ (core_s (by omega)) (by omega) (by omega)]
    · rw [e406]
      exact h.law.mov (eL 81 (by decide) (by omega)) hlo hK (by omega) (hR.2.1 1 (by omega)) (fun _ => hT)
    · refine h.past.rem (V1 := U) (V2 := W) (V3 := V3) (nx := nx) (a := a) h.st h.wf h.r15 e7 hnx (by rw [← a8]; exact e8) (by omega) hU ?_ ?_ (fun x g1 g2 => w x (by omega)) ?_ ?_ ?_ s70 ?_ (fun x g1 g2 => ?_) ?_ ?_ ?_ (fun x g1 g2 => d1 x (by omega)) (eL 81 (by decide) (by omega))
      · rw [hW, up2_ni (by decide), up2_at]
      · rw [hW, up2_at, a8]
      · rw [w 406 (by decide), u 406 (by omega)]
      · rw [w 409 (by decide), u 409 (by omega)]
      · exact hRm
      · rw [t405, if_pos rfl]; exact m4
      · rw [v2 x (core_s (by omega)) (by omega) (by omega), c1 x (core_s (by omega)) (by omega)]
      · rw [m7 409 rfl (by decide), t409]
      · rw [e406]; exact hR.2.1 1 (by omega)
      · rw [e406]; exact hR.2.1 2 (by omega)
    · rw [s70, w70 1 (by decide) (by decide), w70 5 (by decide) (by decide), b405 12 (by omega), b405 3 (by omega)]
      exact h.fl
    · refine h.kep.mov (b405 3 (by omega)) (fun i hi => ?_) ?_ (eL 103 (by decide) (by omega)) hlo hK (by omega)
      · rw [v2 _ (core_s (by omega)) (by omega) (by omega), v1 _ (core_s (by omega)) (by omega) (by omega) (by omega)]
      · rw [v2 407 rfl (by decide) (by decide), v1 407 rfl (by decide) (by omega) (by omega)]
end INV
