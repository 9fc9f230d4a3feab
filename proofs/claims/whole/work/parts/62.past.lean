/-! ===== WHAT CAN BE UNDONE; THE IMAGE ===== -/
theorem St.ext {V : xF} {s : Nat} {p p' : Rw} (h : St V s p) (he : ∀ k, k < 331 → p' k = p k) : St V s p' := by
  unfold St rW rD rS rR dB_ dO_ tP_ tW_ tL_ at *
  rw [he 3 (by omega), he 4 (by omega), he 0 (by omega), he 5 (by omega), he 6 (by omega), he 7 (by omega), he 8 (by omega), he 9 (by omega), he 10 (by omega), he 11 (by omega), he 12 (by omega), he 15 (by omega), he 13 (by omega), he 14 (by omega)]
  obtain ⟨g0, g1, g2, g3, g4, g5, g6, g7, g8, g9, g10, g12, g13, g14, g15, g16, g17, g18, g19, g20, g21, g22⟩ := h
  refine ⟨g0, fun r hr => ?_, fun r hr => ?_, fun r w hr hw => ?_, fun r hr => ?_, fun r hr => ?_, g6, fun t ht => ?_, fun t ht => ?_, fun t ht => ?_, g10, g12, g13, g14, g15, g16, g17, g18, g19, g20, g21, fun k hk => ?_⟩
  · rw [he _ (by omega)]; exact g1 r hr
  · rw [he _ (by omega)]; exact g2 r hr
  · rw [he _ (by omega)]; exact g3 r w hr hw
  · rw [he _ (by omega)]; exact g4 r hr
  · rw [he _ (by omega), he _ (by omega), he _ (by omega), he _ (by omega), he _ (by omega)]; exact g5 r hr
  · rw [he _ (by omega)]; exact g7 t ht
  · rw [he _ (by omega)]; exact g8 t ht
  · rw [he _ (by omega)]; exact g9 t ht
  · rw [he _ (by omega)]; exact g22 k hk
theorem WF.ext {p p' : Rw} (h : WF p) (he : ∀ k, k < 331 → p' k = p k) : WF p' := by
  have h3 : p 3 ≤ 5 := h.1.2
  have h4 : p 4 ≤ 5 := h.2.1.2
  unfold WF rW rD rS rR dO_ tP_ tW_ tL_ at *
  rw [he 3 (by omega), he 4 (by omega), he 0 (by omega), he 1 (by omega), he 5 (by omega), he 6 (by omega), he 7 (by omega), he 8 (by omega), he 9 (by omega), he 10 (by omega), he 11 (by omega), he 12 (by omega), he 13 (by omega), he 14 (by omega)]
  obtain ⟨g1, g2, g3, g4, g5, g6, g7, g8, g9, g10, g11, g12, g13, g14, g15, g16⟩ := h
  refine ⟨g1, g2, g3, g4, g5, g6, g7, g8, g9, g10, g11, fun r hr => ?_, fun t ht => ?_, fun t u ht hu => ?_, fun r o hr ho => ?_, ?_⟩
  · rw [he _ (by omega), he _ (by omega), he _ (by omega)]
    obtain ⟨a, b, c, e⟩ := g12 r hr
    exact ⟨a, b, fun w hw => by rw [he _ (by omega)]; exact c w hw, e⟩
  · rw [he _ (by omega), he _ (by omega), he _ (by omega)]
    exact g13 t ht
  · rw [he _ (by omega), he _ (by omega)]
    exact g14 t u ht hu
  · rw [he _ (by omega), he _ (by omega)]
    exact g15 r o hr ho
  · rcases g16 with h | ⟨a, b, c, e, f, g⟩
    · exact Or.inl h
    · refine Or.inr ⟨a, b, c, ?_, f, ?_⟩
      · rw [he _ (by omega)]; exact e
      · rw [he _ (by omega)]; exact g
/-- a State keeps its row where its cells are kept -/
theorem St.keep {V V' : xF} {s : Nat} {p : Rw} (h : St V s p) (he : ∀ k, k ≤ 10 → V' (s + k) = V (s + k)) : St V' s p := by
  unfold St
  rw [he 1 (by omega), he 2 (by omega), he 3 (by omega), he 4 (by omega), he 5 (by omega), he 6 (by omega), he 7 (by omega), he 8 (by omega), he 9 (by omega), he 10 (by omega), show V' s = V s from he 0 (by omega)]
  exact h
/-- a row of what is remembered by the model -/
def arow (V : xF) (j : Nat) : Rw := fun k => V 409 (331 * j + k)
/-- where the class remembers it -/
def pix (nx a j : Nat) : Nat := (nx + 12 - a + j) % 12
def PastR (V : xF) (D : yD) : Prop := V 70 8 = V 405 6 ∧ (0 ≤ V 70 8 ∧ V 70 8 ≤ 12) ∧ (0 ≤ V 70 7 ∧ V 70 7 ≤ 11) ∧
  ∀ j : Nat, (j : Int) < V 70 8 → St V (115 + 11 * pix (V 70 7).toNat (V 70 8).toNat j) (arow V j) ∧ WF (arow V j) ∧ r32 (arow V j 15) ∧ D.2.1 (115 + 11 * pix (V 70 7).toNat (V 70 8).toNat j) = D.2.1 81 ∧ arow V j 1 = V 406 1 ∧ arow V j 2 = V 406 2
section PAST
variable {d : Nat} {V : xF} {D : yD} {Q : xRes → xF → yD → Prop}
theorem yR114 {n : Nat} (hn : n < 12) : yR D.2.1 D.2.2.1 114 n = 115 + 11 * n := by
  have : n = 0 ∨ n = 1 ∨ n = 2 ∨ n = 3 ∨ n = 4 ∨ n = 5 ∨ n = 6 ∨ n = 7 ∨ n = 8 ∨ n = 9 ∨ n = 10 ∨ n = 11 := by omega
  rcases this with h | h | h | h | h | h | h | h | h | h | h | h <;> subst h <;> rfl
theorem K114 : 24 ≤ (yK D.2.2.1 114).1 ∧ (yK D.2.2.1 114).1 ≤ 25 := ⟨Nat.le_of_ble_eq_true rfl, Nat.le_of_ble_eq_true rfl⟩
/-- behind an act's beginning: the class has remembered -/
def remD (D : yD) (nx : Nat) : yD := (D.1, up1 D.2.1 (115 + 11 * nx) (D.2.1 81), D.2.2)
theorem c_remember {nx a : Nat} (h7 : V 70 7 = (nx : Int)) (hnx : nx < 12) (h8 : V 70 8 = (a : Int)) (ha : a ≤ 12) (hl : D.2.1 81 ≠ 0)
    (h : ∀ V1, Cpd (115 + 11 * nx) 81 cpos V V1 → Q (.inl none) (up2 (up2 V1 70 7 (((nx + 1) % 12 : Nat) : Int)) 70 8 ((if a = 12 then 12 else a + 1 : Nat) : Int)) (remD D nx)) : RY d 256 0 [vr 70] [] V D Q := by
  refine u_256_0 ?_
  rw [h7, nn_toNat, yR114 hnx]
  refine ⟨K114, ⟨by omega, by omega⟩, by omega, ?_⟩
  rintro q rfl
  have hA := StA_past hnx
  refine ⟨by rw [hA.2.1], ?_⟩
  refine c_copy hA StA_81 (by omega) hl ?_
  intro V1 hC
  have e70 : V1 70 = V 70 := hC.2 70 (by omega)
  have hq := h V1 hC
  have eM : ∀ (W : xF), yr_291 (wr ((a : Int) + 1)) 12 W (remD D nx) = ((if a = 12 then 12 else a + 1 : Nat) : Int) := by
    intro W
    rw [wr_id (by omega) (by omega)]
    unfold yr_291
    (repeat' split) <;> omega
  refine u_256_16 ⟨fun h5 => ?_, fun h5 => ?_⟩
  · rw [e70, h7] at h5
    rintro V2 rfl V3 rfl
    rw [up2_ni (by decide), e70, h7, h8, wr_id (x := (nx : Int) + 1) (by omega) (by omega)]
    rw [show (((nx + 1) % 12 : Nat) : Int) = (nx : Int) + 1 by omega] at hq
    have := eM (up2 V1 70 7 ((nx : Int) + 1))
    unfold remD at this hq
    rw [this]
    exact hq
  · rw [e70, h7] at h5
    rintro V2 rfl V3 rfl
    rw [up2_ni (by decide), e70, h8]
    rw [show (((nx + 1) % 12 : Nat) : Int) = 0 by omega] at hq
    have := eM (up2 V1 70 7 0)
    unfold remD at this hq
    rw [this]
    exact hq
/-- and the model -/
def Remd (V V' : xF) (a : Nat) : Prop := V' 405 6 = ((if a = 12 then 12 else a + 1 : Nat) : Int) ∧ (∀ k, k ≠ 6 → V' 405 k = V 405 k) ∧ Fr [405, 409] V V' ∧
  (∀ k, k < 331 → V' 409 (331 * (if a = 12 then 11 else a) + k) = V 406 k) ∧ (a < 12 → ∀ k, k < 331 * a → V' 409 k = V 409 k) ∧ (a = 12 → ∀ k, k < 3641 → V' 409 k = V 409 (k + 331))
theorem m_remembers {a : Nat} (h6 : V 405 6 = (a : Int)) (ha : a ≤ 12) (h : ∀ V', Remd V V' a → Q (.inl none) V' D) : RY d 157 0 [vr 405, vr 0] [] V D Q := by
  have tail : ∀ (b : Nat) (V0 : xF), b < 12 → V0 405 6 = (b : Int) → Fr [405, 409] V V0 → (∀ k, k ≠ 6 → V0 405 k = V 405 k) → (∀ V', V' 405 6 = (b : Int) + 1 → (∀ k, k ≠ 6 → V' 405 k = V 405 k) → Fr [405, 409] V V' → (∀ k, k < 331 → V' 409 (331 * b + k) = V 406 k) → (∀ k, k < 331 * b → V' 409 k = V0 409 k) → Q (.inl none) V' D) →
      RY d 157 52 [vr 405, vi 0] [] V0 D Q := by
    intro b V0 hb h60 F0 hk0 hx
    have main : ∀ (n k : Nat) (V1 : xF), k + n = 331 → V1 405 = V0 405 → Fr [405, 409] V V1 → (∀ i, i < k → V1 409 (331 * b + i) = V 406 i) → (∀ i, i < 331 * b → V1 409 i = V0 409 i) → RY d 157 52 [vr 405, vi (k : Int)] [] V1 D Q := by
      intro n
      induction n with
      | zero =>
        intro k V1 hk e5 F h1 h2
        refine u_157_52 ⟨fun _ => ?_, fun h5 => by omega⟩
        rintro V2 rfl
        rw [e5, h60, wr_id (by omega) (by omega)]
        refine hx _ (up2_at _ _ _ _) (fun k hk => by rw [up2_ni hk, e5]; exact hk0 k hk) (F.tr (Fr.up (by decide))) (fun i hi => ?_) (fun i hi => ?_)
        · rw [up2_na (by decide)]; exact h1 i (by omega)
        · rw [up2_na (by decide)]; exact h2 i hi
      | succ n ih =>
        intro k V1 hk e5 F h1 h2
        refine u_157_52 ⟨fun h5 => by omega, fun _ => ?_⟩
        rw [e5, h60, F.at_ 406 (by decide), nn_toNat, wr_id (x := 331 * (b : Int)) (by omega) (by omega), wr_id (x := 331 * (b : Int) + (k : Int)) (by omega) (by omega), wr_id (x := (k : Int) + 1) (by omega) (by omega)]
        refine ⟨by omega, by omega, ?_⟩
        rintro V2 rfl
        rw [show (331 * (b : Int) + (k : Int)).toNat = 331 * b + k by omega]
        refine ih (k + 1) _ (by omega) (by rw [up2_na (by decide)]; exact e5) (F.tr (Fr.up (by decide))) (fun i hi => ?_) (fun i hi => ?_)
        · rw [up2_a]
          by_cases e : i = k
          · subst e; rw [if_pos rfl]
          · rw [if_neg (by omega)]; exact h1 i (by omega)
        · rw [up2_ni (by omega)]; exact h2 i hi
    exact main 331 0 V0 (by omega) rfl F0 (fun i hi => by omega) (fun i hi => rfl)
  refine u_157_0 ⟨fun h5 => ?_, fun h5 => ?_⟩
  · rw [h6] at h5
    refine tail a V (by omega) h6 Fr.rf (fun _ _ => rfl) ?_
    intro V' e1 e2 F e3 e4
    refine h V' ⟨?_, e2, F, ?_, fun _ => e4, fun h9 => by omega⟩
    · rw [if_neg (by omega), e1]; omega
    · rw [if_neg (by omega)]; exact e3
  · rw [h6] at h5
    have a12 : a = 12 := by omega
    have main : ∀ (n k : Nat) (V1 : xF), k + n = 3641 → V1 405 = V 405 → Fr [405, 409] V V1 → (∀ i, i < k → V1 409 i = V 409 (i + 331)) → (∀ i, k ≤ i → V1 409 i = V 409 i) → RY d 157 11 [vr 405, vi (k : Int)] [] V1 D Q := by
      intro n
      induction n with
      | zero =>
        intro k V1 hk e5 F h1 h2
        refine u_157_11 ⟨fun _ => ?_, fun h5 => by omega⟩
        rintro V2 rfl
        rw [e5, h6, wr_id (by omega) (by omega)]
        refine tail 11 _ (by omega) (by rw [up2_at]; omega) (F.tr (Fr.up (by decide))) (fun k hk => by rw [up2_ni hk, e5]) ?_
        intro V' e1 e2 F' e3 e4
        refine h V' ⟨?_, e2, F', ?_, fun h9 => by omega, fun _ i hi => ?_⟩
        · rw [if_pos a12, e1]; rfl
        · rw [if_pos a12]; exact e3
        · rw [e4 i (by omega), up2_na (by decide)]
          exact h1 i (by omega)
      | succ n ih =>
        intro k V1 hk e5 F h1 h2
        refine u_157_11 ⟨fun h5 => by omega, fun _ => ?_⟩
        rw [nn_toNat, wr_id (x := (k : Int) + 331) (by omega) (by omega), wr_id (x := (k : Int) + 1) (by omega) (by omega), show ((k : Int) + 331).toNat = k + 331 by omega]
        refine ⟨by omega, by omega, ?_⟩
        rintro V2 rfl
        rw [h2 (k + 331) (by omega)]
        refine ih (k + 1) _ (by omega) (by rw [up2_na (by decide)]; exact e5) (F.tr (Fr.up (by decide))) (fun i hi => ?_) (fun i hi => ?_)
        · rw [up2_a]
          by_cases e : i = k
          · subst e; rw [if_pos rfl]
          · rw [if_neg e]; exact h1 i (by omega)
        · rw [up2_ni (by omega)]
          exact h2 i (by omega)
    exact main 3641 0 V (by omega) rfl Fr.rf (fun i hi => by omega) (fun i _ => rfl)
/-- both have remembered: what can be undone is as it must be; V2 is behind the class's act, V4 behind the model's -/
theorem PastR.rem {V1 V2 V3 V4 : xF} {D D' : yD} {nx a : Nat} (hP : PastR V D) (hS : St V 81 (V 406)) (hW : WF (V 406)) (h15 : r32 (V 406 15)) (h7 : V 70 7 = (nx : Int)) (hnx : nx < 12) (h8 : V 70 8 = (a : Int)) (ha : a ≤ 12)
    (hC : Cpd (115 + 11 * nx) 81 cpos V V1) (e7 : V2 70 7 = (((nx + 1) % 12 : Nat) : Int)) (e8 : V2 70 8 = ((if a = 12 then 12 else a + 1 : Nat) : Int)) (eS : ∀ b, 115 ≤ b → b ≤ 246 → V2 b = V1 b) (e6 : V2 406 = V 406) (e9 : V2 409 = V 409)
    (hR : Remd V2 V3 a) (f70 : V4 70 = V2 70) (f405 : V4 405 6 = V3 405 6) (fS : ∀ b, 115 ≤ b → b ≤ 246 → V4 b = V2 b) (f9 : V4 409 = V3 409) (f1 : V4 406 1 = V 406 1) (f2 : V4 406 2 = V 406 2) (hD : ∀ b, 115 ≤ b → b ≤ 246 → D'.2.1 b = (remD D nx).2.1 b) (hD81 : D'.2.1 81 = D.2.1 81) : PastR V4 D' := by
  obtain ⟨p1, p2, p3, p4⟩ := hP
  obtain ⟨r1, r2, r3, r4, r5, r6⟩ := hR
  unfold PastR
  rw [f70, e7, e8, f405, r1]
  refine ⟨rfl, ⟨by omega, by split <;> omega⟩, ⟨by omega, by omega⟩, fun j hj => ?_⟩
  rw [nn_toNat, nn_toNat]
  -- the newest
  have hnew : St V4 (115 + 11 * nx) (V 406) := by
    refine St.keep (hC.st hS) (fun k hk => ?_)
    rw [fS _ (by omega) (by omega), eS _ (by omega) (by omega)]
  have hlast : ∀ k, k < 331 → V4 409 (331 * (if a = 12 then 11 else a) + k) = V 406 k := fun k hk => by rw [f9, r4 k hk, e6]
  -- an elder one
  have hold : ∀ i, i < a → ∀ jj, (∀ k, k < 331 → V4 409 (331 * jj + k) = V 409 (331 * i + k)) → pix nx a i ≠ nx → (St V4 (115 + 11 * pix nx a i) (arow V4 jj) ∧ WF (arow V4 jj) ∧ r32 (arow V4 jj 15) ∧ D'.2.1 (115 + 11 * pix nx a i) = D'.2.1 81 ∧ arow V4 jj 1 = V4 406 1 ∧ arow V4 jj 2 = V4 406 2) := by
    intro i hi jj hrow hne
    have hp := p4 i (by omega)
    rw [h7, h8, nn_toNat, nn_toNat] at hp
    obtain ⟨q1, q2, q3, q4, q5, q6⟩ := hp
    have hlt : pix nx a i < 12 := Nat.mod_lt _ (by omega)
    refine ⟨?_, WF.ext q2 hrow, by unfold arow; rw [hrow 15 (by omega)]; exact q3, ?_, ?_, ?_⟩
    · refine St.ext (St.keep q1 (fun k hk => ?_)) hrow
      rw [fS _ (by omega) (by omega), eS _ (by omega) (by omega)]
      exact hC.2 _ (by omega)
    · rw [hD _ (by omega) (by omega), hD81]
      unfold remD up1
      dsimp only
      rw [if_neg (by omega)]
      exact q4
    · unfold arow
      rw [hrow 1 (by omega), f1]
      exact q5
    · unfold arow
      rw [hrow 2 (by omega), f2]
      exact q6
  by_cases h12 : a = 12
  · rw [if_pos h12] at hj ⊢
    by_cases hj11 : j = 11
    · have ex : pix ((nx + 1) % 12) 12 j = nx := by unfold pix; omega
      rw [ex]
      rw [if_pos h12] at hlast
      rw [hj11]
      refine ⟨St.ext hnew (fun k hk => hlast k hk), WF.ext hW (fun k hk => hlast k hk), ?_, ?_, ?_, ?_⟩
      · unfold arow; rw [hlast 15 (by omega)]; exact h15
      · rw [hD _ (by omega) (by omega), hD81]
        unfold remD up1
        dsimp only
        rw [if_pos rfl]
      · unfold arow; rw [hlast 1 (by omega), f1]
      · unfold arow; rw [hlast 2 (by omega), f2]
    · have ex : pix ((nx + 1) % 12) 12 j = pix nx a (j + 1) := by unfold pix; omega
      rw [ex]
      refine hold (j + 1) (by omega) j (fun k hk => ?_) (by unfold pix; omega)
      rw [f9, r6 h12 (331 * j + k) (by omega), e9]
      congr 1
      omega
  · rw [if_neg h12] at hj ⊢
    by_cases hja : j = a
    · have ex : pix ((nx + 1) % 12) (a + 1) j = nx := by unfold pix; omega
      rw [ex]
      rw [if_neg h12] at hlast
      rw [hja]
      refine ⟨St.ext hnew (fun k hk => hlast k hk), WF.ext hW (fun k hk => hlast k hk), ?_, ?_, ?_, ?_⟩
      · unfold arow; rw [hlast 15 (by omega)]; exact h15
      · rw [hD _ (by omega) (by omega), hD81]
        unfold remD up1
        dsimp only
        rw [if_pos rfl]
      · unfold arow; rw [hlast 1 (by omega), f1]
      · unfold arow; rw [hlast 2 (by omega), f2]
    · have ex : pix ((nx + 1) % 12) (a + 1) j = pix nx a j := by unfold pix; omega
      rw [ex]
      refine hold j (by omega) j (fun k hk => ?_) (by unfold pix; omega)
      rw [f9, r5 (by omega) (331 * j + k) (by omega), e9]
end PAST
