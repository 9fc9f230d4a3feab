/-! ===== COUNT, TWO ROOMS, LOG, LED, SEED, FAULT ===== -/
section READS
variable {d : Nat} {V : xF} {D : yD} {Q : xRes → xF → yD → Prop} {p : Rw}
def countF (p : Rw) (a k : Int) : Int := if k = 0 then p 3 else if k = 1 then p 4 else if k = 2 then p 0 else if k = 3 then p 1 else if k = 4 then p 5 else if k = 5 then (if p 5 = -1 then -1 else 16 * p 6 + p 7) else if 6 ≤ k ∧ k ≤ 11 then p (2 + k.toNat) else if k = 12 then p 14 else if k = 13 then a else -1
theorem ca_count {k a : Int} (hS : St V 81 p) (hL : D.2.1 81 ≠ 0 ∧ (yK D.2.2.1 (D.2.1 81)).1 = 3 ∧ V (D.2.1 81) 0 = p 1) (ha : V 70 8 = a) (h : Q (.inl (some (vi (countF p a k)))) V D) : RY d 109 0 [vr 70, vi k] [] V D Q := by
  obtain ⟨g0, g1, g2, g3, g4, g5, g6, g7, g8, g9, g10, g12, g13, g14, g15, g16, g17, g18, g19, g20, g21, g22⟩ := hS
  refine u_109_0 ⟨⟨fun e => ?_, fun e => ?_, fun e => ?_, fun e => ⟨rfl, hL.1, hL.2.1, ?_⟩, fun e => ?_, fun e => ?_, fun e => ?_, fun e => ?_, fun e => ?_, fun e => ?_, fun e => ?_, fun e => ?_, fun e => ?_, fun e => ?_, trivial⟩, fun e => ?_⟩
  · subst e; rw [g0]; exact h
  · subst e; rw [g6]; exact h
  · subst e; rw [g10]; exact h
  · subst e; rw [hL.2.2]; exact h
  · subst e; rw [g12]; exact h
  · subst e; rw [g13]; exact h
  · subst e; rw [g14]; exact h
  · subst e; rw [g15]; exact h
  · subst e; rw [g16]; exact h
  · subst e; rw [g17]; exact h
  · subst e; rw [g18]; exact h
  · subst e; rw [show V 90 0 = p 13 from g20]; exact h
  · subst e; rw [show V 90 1 = p 14 from g21]; exact h
  · subst e; rw [ha]; exact h
  · have : countF p a k = -1 := by
      unfold countF
      rw [if_neg (by omega), if_neg (by omega), if_neg (by omega), if_neg (by omega), if_neg (by omega), if_neg (by omega), if_neg (by omega), if_neg (by omega), if_neg (by omega)]
    rw [this] at h
    exact h
theorem ma_count {k : Int} (hW : WF (V 406)) (h : ∀ V', V' 405 0 = 0 → Cor V V' → Q (.inl (some (vi (countF (V 406) (V 405 6) k)))) V' D) : RY d 110 0 [vr 405, vi k] [] V D Q := by
  refine u_110_0 ?_
  rintro V1 hV1
  have e6 : V1 406 = V 406 := by rw [hV1]; exact v405.2.1
  have e5 : V1 405 6 = V 405 6 := by rw [hV1]; exact up2_ni (by decide)
  have hq := h V1 (by rw [hV1]; exact v405.1) (by rw [hV1]; exact v405.2.2)
  clear hV1 h
  rw [← e6] at hq hW
  rw [← e5] at hq
  have hp := hW.2.2.2.2.2.2.2.2.2.2.2.2.2.2.2
  rw [yr124]
  unfold countF at hq
  refine ⟨fun n0 => ⟨fun n1 => ⟨fun n2 => ⟨fun n3 => ⟨fun n4 => ⟨fun n5 => ⟨fun n6 => ⟨fun n12 => ⟨fun n13 => ?_, fun e => ?_⟩, fun e => ?_⟩, fun n6 => ⟨?_, ?_⟩⟩, fun e => ⟨fun n => ?_, fun n => ?_⟩⟩, fun e => ?_⟩, fun e => ?_⟩, fun e => ?_⟩, fun e => ?_⟩, fun e => ?_⟩
  all_goals (try simp only [if_neg n0] at hq)
  all_goals (try simp only [if_neg n1] at hq)
  all_goals (try simp only [if_neg n2] at hq)
  all_goals (try simp only [if_neg n3] at hq)
  all_goals (try simp only [if_neg n4] at hq)
  all_goals (try simp only [if_neg n5] at hq)
  · have n6' : ¬ (6 ≤ k ∧ k ≤ 11) := fun hc => by rw [if_pos hc] at n6; exact absurd n6 (by decide)
    rw [if_neg n6', if_neg n12, if_neg n13] at hq
    exact hq
  · subst e; exact hq
  · subst e; exact hq
  · have n6' : 6 ≤ k ∧ k ≤ 11 := by
      apply Classical.byContradiction
      intro hc
      rw [if_neg hc] at n6
      exact n6 rfl
    rw [wr_id (x := 8 + k) (by omega) (by omega), wr_id (by omega) (by omega)]
    omega
  · have n6' : 6 ≤ k ∧ k ≤ 11 := by
      apply Classical.byContradiction
      intro hc
      rw [if_neg hc] at n6
      exact n6 rfl
    rw [if_pos n6'] at hq
    rw [wr_id (x := 8 + k) (by omega) (by omega), wr_id (by omega) (by omega), show (8 + k - 6).toNat = 2 + k.toNat by omega]
    exact hq
  · subst e
    rw [if_pos rfl, if_neg n] at hq
    have h9 : 0 ≤ V1 406 5 ∧ V1 406 5 < V1 406 3 ∧ 1 ≤ V1 406 6 ∧ V1 406 6 < rW (V1 406) (V1 406 5).toNat ∧ 1 ≤ V1 406 7 ∧ V1 406 7 < rD (V1 406) (V1 406 5).toNat := by
      rcases hp with hp | hp
      · exact absurd hp n
      · exact hp
    obtain ⟨-, b1, b2⟩ := hW.room (r := (V1 406 5).toNat) (by omega)
    rw [wr_id (x := 16 * V1 406 6) (by omega) (by omega), wr_id (by omega) (by omega)]
    exact hq
  · subst e
    rw [if_pos rfl, if_pos n] at hq
    exact hq
  · subst e; exact hq
  · subst e; exact hq
  · subst e; exact hq
  · subst e; exact hq
  · subst e; exact hq
/-- two rooms that are not one -/
def twoR (p : Rw) (r o : Int) : Prop := (0 ≤ r ∧ r < p 3) ∧ (0 ≤ o ∧ o < p 3)
noncomputable def aTwo (p : Rw) (r o : Int) (F : aRes) : aRes := aIf (twoR p r o) (aIf (r = o) (.inr 0) F) (.inr 2)
theorem c_needTwo {r o : Int} (hS : St V 81 p) (h1 : twoR p r o → r ≠ o → Q (.inl none) V D) (h2 : ¬ twoR p r o → Q (.inr 2) V (excD D)) (h3 : twoR p r o → r = o → Q (.inr 0) V (excD D)) : RY d 250 0 [vr 70, vi r, vi o] [] V D Q := by
  refine u_250_0 (c_needRoom hS (fun hr => ?_) (fun hr => ⟨rfl, h2 (fun h => hr h.1)⟩))
  refine u_250_5 (c_needRoom hS (fun ho => ?_) (fun ho => ⟨rfl, h2 (fun h => ho h.2)⟩))
  exact u_250_10 (u_283_0 ⟨fun hn => u_250_16 (h1 ⟨hr, ho⟩ hn), fun he => ⟨rfl, h3 ⟨hr, ho⟩ he⟩⟩)
theorem m_areTwo {r o : Int} (hW : WF (V 406)) (h1 : twoR (V 406) r o → r ≠ o → ∀ V', V' 405 0 = 0 → Cor V V' → Fr [405] V V' → Q (.inl none) V' D) (h2 : ¬ twoR (V 406) r o → ∀ V', V' 405 0 = 1 → Cor V V' → Q (.inl none) V' D) (h3 : twoR (V 406) r o → r = o → ∀ V', V' 405 0 = 2 → Cor V V' → Q (.inl none) V' D) : RY d 151 0 [vr 405, vi r, vi o] [] V D Q := by
  refine u_151_0 ⟨yg132, ?_⟩
  rw [yr132 hW, yr132 hW]
  by_cases hr : 0 ≤ r ∧ r < V 406 3
  · rw [if_pos hr]
    refine ⟨fun h => absurd h (by decide), fun _ => ⟨yg132, ?_⟩⟩
    by_cases ho : 0 ≤ o ∧ o < V 406 3
    · rw [if_pos ho]
      refine ⟨fun _ => ⟨fun hn => ?_, fun he => ?_⟩, fun h => absurd h (by decide)⟩
      · rintro V1 rfl; exact h1 ⟨hr, ho⟩ hn _ v405.1 v405.2.2 (Fr.up (by decide))
      · rintro V1 rfl; exact h3 ⟨hr, ho⟩ he _ v405.1 v405.2.2
    · rw [if_neg ho]
      refine ⟨fun h => absurd rfl h, fun _ => ?_⟩
      rintro V1 rfl; exact h2 (fun h => ho h.2) _ v405.1 v405.2.2
  · rw [if_neg hr]
    refine ⟨fun _ => ?_, fun h => absurd rfl h⟩
    rintro V1 rfl; exact h2 (fun h => hr h.1) _ v405.1 v405.2.2
theorem WF.dor (h : WF p) {r o : Nat} (hr : r < 5) (ho : o < 5) : (dO_ p r o = 0 ∨ dO_ p r o = 1) ∧ dO_ p r o = dO_ p o r ∧ (dO_ p r o = 1 → (r : Int) < p 3 ∧ (o : Int) < p 3 ∧ r ≠ o) := by
  obtain ⟨-, -, -, -, -, -, -, -, -, -, -, -, -, -, hx, -⟩ := h
  exact hx r o hr ho
theorem bits5 {a b c e f : Int} (ha : a = 0 ∨ a = 1) (hb : b = 0 ∨ b = 1) (hc : c = 0 ∨ c = 1) (he : e = 0 ∨ e = 1) (hf : f = 0 ∨ f = 1) : (0 ≤ a + 2 * b + 4 * c + 8 * e + 16 * f ∧ a + 2 * b + 4 * c + 8 * e + 16 * f < 32) ∧
    xand (xshr (a + 2 * b + 4 * c + 8 * e + 16 * f) 0) 1 = a ∧ xand (xshr (a + 2 * b + 4 * c + 8 * e + 16 * f) 1) 1 = b ∧ xand (xshr (a + 2 * b + 4 * c + 8 * e + 16 * f) 2) 1 = c ∧ xand (xshr (a + 2 * b + 4 * c + 8 * e + 16 * f) 3) 1 = e ∧ xand (xshr (a + 2 * b + 4 * c + 8 * e + 16 * f) 4) 1 = f := by
  rcases ha with rfl | rfl <;> rcases hb with rfl | rfl <;> rcases hc with rfl | rfl <;> rcases he with rfl | rfl <;> rcases hf with rfl | rfl <;> decide
theorem dB_b (h : WF p) {r : Nat} (hr : r < 5) : 0 ≤ dB_ p r ∧ dB_ p r < 32 :=
  (bits5 (h.dor hr (o := 0) (by omega)).1 (h.dor hr (o := 1) (by omega)).1 (h.dor hr (o := 2) (by omega)).1 (h.dor hr (o := 3) (by omega)).1 (h.dor hr (o := 4) (by omega)).1).1
theorem dB_at (h : WF p) {r o : Nat} (hr : r < 5) (ho : o < 5) : xand (xshr (dB_ p r) (o : Int)) 1 = dO_ p r o := by
  have hb := (bits5 (h.dor hr (o := 0) (by omega)).1 (h.dor hr (o := 1) (by omega)).1 (h.dor hr (o := 2) (by omega)).1 (h.dor hr (o := 3) (by omega)).1 (h.dor hr (o := 4) (by omega)).1).2
  have : o = 0 ∨ o = 1 ∨ o = 2 ∨ o = 3 ∨ o = 4 := by omega
  rcases this with e | e | e | e | e <;> subst e
  · exact hb.1
  · exact hb.2.1
  · exact hb.2.2.1
  · exact hb.2.2.2.1
  · exact hb.2.2.2.2
theorem bit_tb {x : Int} {j : Nat} (hx : 0 ≤ x ∧ x < 32) (hj : j < 5) : xand (xshr x (j : Int)) 1 = if tb x j = true then 1 else 0 := by
  have hall : ∀ x : Fin 32, ∀ j : Fin 5, xand (xshr (x.1 : Int) (j.1 : Int)) 1 = if tb (x.1 : Int) j.1 = true then 1 else 0 := by decide +kernel
  have := hall ⟨x.toNat, by omega⟩ ⟨j, hj⟩
  dsimp only at this
  rwa [show ((x.toNat : Nat) : Int) = x by omega] at this
theorem dB_tb (h : WF p) {r o : Nat} (hr : r < 5) (ho : o < 5) : tb (dB_ p r) o = decide (dO_ p r o = 1) := by
  have h1 := bit_tb (dB_b h hr) ho
  rw [dB_at h hr ho] at h1
  cases hb : tb (dB_ p r) o with
  | true => rw [hb, if_pos rfl] at h1; rw [h1]; rfl
  | false => rw [hb, if_neg (by decide)] at h1; rw [h1]; rfl
theorem yr152 (hW : WF (V 406)) {r o : Nat} (hr : r < 5) (ho : o < 5) : yr_152 (r : Int) (o : Int) V D = if dO_ (V 406) r o = 1 then 1 else 0 := by
  unfold yr_152
  have : (wr (wr (66 + wr (5 * (r : Int))) + (o : Int))).toNat = 66 + 5 * r + o := by
    simp only [wr_eq]
    omega
  rw [this]
  rfl
theorem yg152 {r o : Nat} (hr : r < 5) (ho : o < 5) : yg_152 (r : Int) (o : Int) V D := by
  unfold yg_152
  rw [wr_id (x := 5 * (r : Int)) (by omega) (by omega), wr_id (x := 66 + 5 * (r : Int)) (by omega) (by omega), wr_id (by omega) (by omega)]
  omega
theorem WF.r5 (h : WF p) {r : Int} (hr : 0 ≤ r ∧ r < p 3) : r.toNat < 5 ∧ ((r.toNat : Nat) : Int) = r := by
  have := h.1
  omega
/-- IS OPEN -/
noncomputable def aOpen (p : Rw) (r o : Int) : aRes := aTwo p r o (.inl (if dO_ p r.toNat o.toNat = 1 then 1 else 0))
theorem aTwo_y {r o : Int} {F : aRes} (h : twoR p r o) (hn : r ≠ o) : aTwo p r o F = F := by unfold aTwo; rw [aIf_y h, aIf_n hn]
theorem aTwo_n {r o : Int} {F : aRes} (h : ¬ twoR p r o) : aTwo p r o F = .inr 2 := by unfold aTwo; rw [aIf_n h]
theorem aTwo_e {r o : Int} {F : aRes} (h : twoR p r o) (hn : r = o) : aTwo p r o F = .inr 0 := by unfold aTwo; rw [aIf_y h, aIf_y hn]
theorem ca_isOpen {r o : Int} (hS : St V 81 p) (hW : WF p) (h : ∀ D', CorD D D' → Q (cRes (aOpen p r o)) V D') : RY d 150 0 [vr 70, vi r, vi o] [] V D Q := by
  unfold aOpen at h
  refine u_150_0 (c_needTwo hS (fun h2 hn => ?_) (fun h2 => ⟨rfl, ?_⟩) (fun h2 he => ⟨rfl, ?_⟩))
  · rw [aTwo_y h2 hn] at h
    obtain ⟨r5, er⟩ := hW.r5 h2.1
    obtain ⟨o5, eo⟩ := hW.r5 h2.2
    have e : yr_251_81 r o V D = if dO_ p r.toNat o.toNat = 1 then 1 else 0 := by
      unfold yr_251_81
      rw [show V 86 r.toNat = dB_ p r.toNat from hS.2.2.2.2.2.1 _ r5, ← eo, dB_at hW r5 o5, eo]
    refine u_150_6 ⟨?_, ?_, ?_⟩
    · unfold yg_251_81; omega
    · rw [e]; split <;> simp
    · rw [e]; exact h D CorD.rf
  · rw [aTwo_n h2] at h; exact h _ CorD.exc
  · rw [aTwo_e h2 he] at h; exact h _ CorD.exc
theorem ma_isOpen {r o : Int} (hW : WF (V 406)) (h : ∀ V', V' 405 0 = mCd 2 (aOpen (V 406) r o) → Cor V V' → Q (.inl (some (vi (mVal (aOpen (V 406) r o))))) V' D) : RY d 22 0 [vr 405, vi r, vi o] [] V D Q := by
  unfold aOpen at h
  refine u_22_0 (m_areTwo hW (fun h2 hn V1 t1 C1 F1 => ?_) (fun h2 V1 t1 C1 => ?_) (fun h2 he V1 t1 C1 => ?_))
  · rw [aTwo_y h2 hn] at h
    have e6 : V1 406 = V 406 := C1.at_ 406 rfl
    obtain ⟨r5, er⟩ := hW.r5 h2.1
    obtain ⟨o5, eo⟩ := hW.r5 h2.2
    have hq := h V1 t1 C1
    refine u_22_6 ⟨fun h5 => by omega, fun _ => ?_⟩
    rw [← er, ← eo, yr152 (by rw [e6]; exact hW) r5 o5, e6]
    refine ⟨yg152 r5 o5, fun h5 => ?_, fun h5 => ?_⟩
    · rw [if_neg (by intro hc; rw [if_pos hc] at h5; exact absurd h5 (by decide))] at hq
      exact hq
    · rw [if_pos (by apply Classical.byContradiction; intro hc; rw [if_neg hc] at h5; exact h5 rfl)] at hq
      exact hq
  · rw [aTwo_n h2] at h
    exact u_22_6 ⟨fun _ => h V1 t1 C1, fun h5 => by omega⟩
  · rw [aTwo_e h2 he] at h
    exact u_22_6 ⟨fun _ => h V1 t1 C1, fun h5 => by omega⟩
/-- LOG -/
noncomputable def aLog (p : Rw) (a w : Int) : aRes := aIf (0 ≤ w ∧ w ≤ 3) (.inl (if 0 ≤ a ∧ a < p 14 then p (91 + (4 * a.toNat + w.toNat)) else -1)) (.inr 4)
theorem ca_log {a w : Int} (hS : St V 81 p) (hW : WF p) (h : ∀ D', CorD D D' → Q (cRes (aLog p a w)) V D') : RY d 223 0 [vr 70, vi a, vi w] [] V D Q := by
  have h14 : 0 ≤ p 14 ∧ p 14 ≤ 60 := hW.2.2.2.2.2.2.2.2.1
  have e1 : V 90 1 = p 14 := hS.2.2.2.2.2.2.2.2.2.2.2.2.2.2.2.2.2.2.2.2.1
  have e2 : ∀ k, k < 240 → V 91 k = p (91 + k) := hS.2.2.2.2.2.2.2.2.2.2.2.2.2.2.2.2.2.2.2.2.2
  unfold aLog at h
  refine u_223_0 ⟨fun h5 => ?_, fun h5 => ⟨fun h6 => ⟨?_, ?_⟩, fun h6 => ?_⟩⟩
  · rw [aIf_n (by omega)] at h; exact h _ CorD.exc
  · unfold yg_295
    intro h7 h8
    rw [wr_id (x := 4 * a) (by omega) (by omega), wr_id (by omega) (by omega)]
    omega
  · rw [aIf_y ⟨h5, h6⟩] at h
    have hq := h D CorD.rf
    unfold yr_295
    by_cases ha : 0 ≤ a ∧ a < p 14
    · rw [if_pos ha] at hq
      rw [if_neg (by omega), if_pos (by omega), wr_id (x := 4 * a) (by omega) (by omega), wr_id (by omega) (by omega), show (4 * a + w).toNat = 4 * a.toNat + w.toNat by omega, e2 _ (by omega)]
      exact hq
    · rw [if_neg ha] at hq
      by_cases h0 : a < 0
      · rw [if_pos h0]; exact hq
      · rw [if_neg h0, if_neg (by omega)]; exact hq
  · rw [aIf_n (by omega)] at h; exact h _ CorD.exc
theorem yr222 {a w : Nat} (ha : a < 60) (hw : w < 4) : yr_222 (a : Int) (w : Int) V D = V 406 (91 + (4 * a + w)) ∧ yg_222 (a : Int) (w : Int) V D := by
  unfold yr_222 yg_222
  rw [wr_id (x := 4 * (a : Int)) (by omega) (by omega), wr_id (x := 91 + 4 * (a : Int)) (by omega) (by omega), wr_id (by omega) (by omega), show (91 + 4 * (a : Int) + (w : Int)).toNat = 91 + (4 * a + w) by omega]
  exact ⟨rfl, by omega⟩
theorem ma_log {a w : Int} (hW : WF (V 406)) (h : ∀ V', V' 405 0 = mCd 4 (aLog (V 406) a w) → Cor V V' → Q (.inl (some (vi (mVal (aLog (V 406) a w))))) V' D) : RY d 100 0 [vr 405, vi a, vi w] [] V D Q := by
  have h14 : 0 ≤ V 406 14 ∧ V 406 14 ≤ 60 := hW.2.2.2.2.2.2.2.2.1
  unfold aLog at h
  refine u_100_0 ?_
  rw [yr124]
  by_cases hw : 0 ≤ w ∧ w ≤ 3
  · rw [aIf_y hw] at h
    rw [if_pos hw]
    refine ⟨fun _ => ?_, fun h5 => absurd h5 (by decide)⟩
    rintro V1 hV1
    have e6 : V1 406 = V 406 := by rw [hV1]; exact v405.2.1
    have t0 : V1 405 0 = 0 := by rw [hV1]; exact v405.1
    have hq := h V1 t0 (by rw [hV1]; exact v405.2.2)
    clear hV1 h
    rw [← e6] at hq h14
    refine ⟨fun _ => ?_, fun h5 => by omega⟩
    rw [yr124, wr_id (x := V1 406 14 - 1) (by omega) (by omega)]
    dsimp only [mVal] at hq
    by_cases ha : 0 ≤ a ∧ a < V1 406 14
    · rw [if_pos ha] at hq
      have hy := yr222 (V := V1) (D := D) (a := a.toNat) (w := w.toNat) (by omega) (by omega)
      rw [show ((a.toNat : Nat) : Int) = a by omega, show ((w.toNat : Nat) : Int) = w by omega] at hy
      rw [if_pos ⟨ha.1, by omega⟩, hy.1]
      exact ⟨fun h5 => absurd h5 (by decide), fun _ => ⟨hy.2, hq⟩⟩
    · rw [if_neg ha] at hq
      rw [if_neg (by omega)]
      exact ⟨fun _ => hq, fun h5 => absurd rfl h5⟩
  · rw [aIf_n hw] at h
    rw [if_neg hw]
    refine ⟨fun h5 => absurd rfl h5, fun _ => ?_⟩
    rintro V1 hV1
    have t0 : V1 405 0 = 1 := by rw [hV1]; exact v405.1
    exact ⟨fun h5 => by omega, fun _ => h V1 t0 (by rw [hV1]; exact v405.2.2)⟩
/-- LED: rows of a room, or the latest time of one -/
def ledB (p : Rw) (r : Int) (k : Nat) : Bool := decide (p (91 + (4 * k + 1)) = r)
def ledF (p : Rw) (r b : Int) : Int := if b = 0 then cntB (ledB p r) (p 14).toNat else if fstB (ledB p r) (p 14).toNat = -1 then -1 else p (91 + (4 * (fstB (ledB p r) (p 14).toNat).toNat + 2))
noncomputable def aLed (p : Rw) (r b : Int) : aRes := aIf (0 ≤ r ∧ r < p 3) (.inl (ledF p r b)) (.inr 2)
theorem ca_led {r b : Int} (hS : St V 81 p) (hW : WF p) (h : ∀ D', CorD D D' → Q (cRes (aLed p r b)) V D') : RY d 221 0 [vr 70, vi r, vi b] [] V D Q := by
  have h14 : 0 ≤ p 14 ∧ p 14 ≤ 60 := hW.2.2.2.2.2.2.2.2.1
  have e1 : V 90 1 = p 14 := hS.2.2.2.2.2.2.2.2.2.2.2.2.2.2.2.2.2.2.2.2.1
  have e2 : ∀ k, k < 240 → V 91 k = p (91 + k) := hS.2.2.2.2.2.2.2.2.2.2.2.2.2.2.2.2.2.2.2.2.2
  unfold aLed at h
  refine u_221_0 (c_needRoom hS (fun hr => ?_) (fun hr => ⟨rfl, by rw [aIf_n hr] at h; exact h _ CorD.exc⟩))
  rw [aIf_y hr] at h
  have hq := h D CorD.rf
  unfold ledF at hq
  refine u_221_5 ⟨fun h5 => ?_, fun h5 => ?_⟩
  · rw [if_pos h5] at hq
    refine u_294_0 ?_
    have main : ∀ (n k : Nat), (k : Int) + n = p 14 → RY d 294 4 [vr 90, vi r, vi (cntB (ledB p r) k), vi (k : Int)] [] V D (yback d 221 34 [vr 70, vi r, vi b] [] Q) := by
      intro n
      induction n with
      | zero =>
        intro k hk
        have : (p 14).toNat = k := by omega
        rw [this] at hq
        exact u_294_4 ⟨fun _ => u_221_34 hq, fun h5 => by omega⟩
      | succ n ih =>
        intro k hk
        have hc := cntB_b (ledB p r) k
        have := ih (k + 1) (by omega)
        unfold cntB at this
        refine u_294_4 ⟨fun h5 => by omega, fun _ => ?_⟩
        rw [wr_id (x := 4 * (k : Int)) (by omega) (by omega), wr_id (x := 4 * (k : Int) + 1) (by omega) (by omega), show (4 * (k : Int) + 1).toNat = 4 * k + 1 by omega, e2 _ (by omega), wr_id (x := (k : Int) + 1) (by omega) (by omega), wr_id (by omega) (by omega)]
        refine ⟨by omega, fun h6 => ?_, fun h6 => ?_⟩
        · rw [if_neg (by unfold ledB; simpa using h6), Int.add_zero] at this
          exact this
        · rw [if_pos (by unfold ledB; simpa using h6)] at this
          exact this
    exact main (p 14).toNat 0 (by omega)
  · rw [if_neg h5] at hq
    refine u_293_0 ?_
    have main : ∀ (n k : Nat), (k : Int) + n = p 14 → (∀ i, i < k → ledB p r i = false) → RY d 293 2 [vr 90, vi r, vi (k : Int)] [] V D (yback d 221 20 [vr 70, vi r, vi b] [] Q) := by
      intro n
      induction n with
      | zero =>
        intro k hk hall
        refine u_293_2 ⟨fun _ => u_221_20 ?_, fun h5 => by omega⟩
        rcases fstB_spec (ledB p r) (p 14).toNat with ⟨x, -⟩ | ⟨m, x, y, z, -⟩
        · rw [x, if_pos rfl] at hq; exact hq
        · rw [hall m (by omega)] at z; cases z
      | succ n ih =>
        intro k hk hall
        refine u_293_2 ⟨fun h5 => by omega, fun _ => ?_⟩
        rw [wr_id (x := 4 * (k : Int)) (by omega) (by omega), wr_id (x := 4 * (k : Int) + 1) (by omega) (by omega), wr_id (x := 4 * (k : Int) + 2) (by omega) (by omega), show (4 * (k : Int) + 1).toNat = 4 * k + 1 by omega, show (4 * (k : Int) + 2).toNat = 4 * k + 2 by omega, e2 _ (by omega), e2 _ (by omega), wr_id (x := (k : Int) + 1) (by omega) (by omega)]
        refine ⟨by omega, fun h6 => ih (k + 1) (by omega) ?_, fun h6 => ⟨by omega, u_221_20 ?_⟩⟩
        · intro i hi
          by_cases e : i = k
          · subst e; unfold ledB; simpa using h6
          · exact hall i (by omega)
        · have hk2 : ledB p r k = true := by unfold ledB; simpa using h6
          rcases fstB_spec (ledB p r) (p 14).toNat with ⟨x, y⟩ | ⟨m, x, y, z, w⟩
          · rw [y k (by omega)] at hk2; cases hk2
          · have : m = k := by
              rcases Nat.lt_trichotomy m k with e | e | e
              · rw [hall m e] at z; cases z
              · exact e
              · rw [w k e] at hk2; cases hk2
            subst this
            rw [x, if_neg (by omega), nn_toNat] at hq
            exact hq
    exact main (p 14).toNat 0 (by omega) (fun i hi => by omega)
theorem cntB_from {g : Nat → Bool} {a : Nat} : ∀ (n : Nat), cntB g (a + n) = cntB g a + cntB (fun k => g (a + k)) n
  | 0 => by show _ = _ + 0; rw [Int.add_zero]; rfl
  | n + 1 => by
    have := cntB_from (g := g) (a := a) n
    show cntB g (a + n) + _ = cntB g a + (cntB (fun k => g (a + k)) n + _)
    rw [this]
    exact Int.add_assoc _ _ _
theorem ma_led {r b : Int} (hW : WF (V 406)) (h : ∀ V', V' 405 0 = mCd 2 (aLed (V 406) r b) → Cor V V' → Q (.inl (some (vi (mVal (aLed (V 406) r b))))) V' D) : RY d 98 0 [vr 405, vi r, vi b, vr 0, vr 0, vr 0] [] V D Q := by
  have h14 : 0 ≤ V 406 14 ∧ V 406 14 ≤ 60 := hW.2.2.2.2.2.2.2.2.1
  unfold aLed at h
  refine u_98_0 ⟨yg132, ?_⟩
  rw [yr132 hW]
  by_cases hr : 0 ≤ r ∧ r < V 406 3
  · rw [if_pos hr]
    rw [aIf_y hr] at h
    refine ⟨fun _ => ?_, fun h5 => absurd h5 (by decide)⟩
    rintro V1 hV1
    have e6 : V1 406 = V 406 := by rw [hV1]; exact v405.2.1
    have t0 : V1 405 0 = 0 := by rw [hV1]; exact v405.1
    have hq := h V1 t0 (by rw [hV1]; exact v405.2.2)
    clear hV1 h
    rw [← e6] at hq h14
    dsimp only [mVal] at hq
    unfold ledF at hq
    refine ⟨fun _ => ?_, fun h5 => by omega⟩
    rw [wr_id (x := V1 406 14 - 1) (by omega) (by omega)]
    obtain ⟨N, hN⟩ : ∃ N : Nat, V1 406 14 = (N : Int) := ⟨(V1 406 14).toNat, by omega⟩
    rw [hN, nn_toNat] at hq
    rw [hN]
    -- k rows from the end are gone through, n are left
    have main : ∀ (n k : Nat) (c f : Int), n + k = N → c = cntB (fun i => ledB (V1 406) r (n + i)) k → ((f = -1 ∧ ∀ i, n ≤ i → i < N → ledB (V1 406) r i = false) ∨ ∃ m : Nat, n ≤ m ∧ m < N ∧ ledB (V1 406) r m = true ∧ (∀ i, n ≤ i → i < m → ledB (V1 406) r i = false) ∧ f = V1 406 (91 + (4 * m + 2))) → RY d 98 42 [vr 405, vi r, vi b, vi c, vi f, vi ((n : Int) - 1)] [] V1 D Q := by
      intro n
      induction n with
      | zero =>
        intro k c f hk hc hf
        refine u_98_42 ⟨fun _ => ⟨fun h5 => ?_, fun h5 => ?_⟩, fun h5 => by omega⟩
        · rw [if_pos h5] at hq
          rw [hc, show k = N by omega]
          have e : (fun i => ledB (V1 406) r (0 + i)) = ledB (V1 406) r := by funext i; rw [Nat.zero_add]
          rw [e]
          exact hq
        · rw [if_neg h5] at hq
          rcases fstB_spec (ledB (V1 406) r) N with ⟨x, y⟩ | ⟨m, x, y, z, w⟩
          · rw [x, if_pos rfl] at hq
            rcases hf with ⟨f1, -⟩ | ⟨m, m1, m2, m3, -⟩
            · rw [f1]; exact hq
            · rw [y m m2] at m3; cases m3
          · rw [x, if_neg (by omega), nn_toNat] at hq
            rcases hf with ⟨-, f2⟩ | ⟨m', m1, m2, m3, m4, m5⟩
            · rw [f2 m (by omega) y] at z; cases z
            · have : m' = m := by
                rcases Nat.lt_trichotomy m' m with e | e | e
                · rw [w m' e] at m3; cases m3
                · exact e
                · rw [m4 m (by omega) e] at z; cases z
              subst this
              rw [m5]
              exact hq
      | succ n ih =>
        intro k c f hk hc hf
        have hcb := cntB_b (fun i => ledB (V1 406) r (n + 1 + i)) k
        have y1 := yr222 (V := V1) (D := D) (a := n) (w := 1) (by omega) (by omega)
        have y2 := yr222 (V := V1) (D := D) (a := n) (w := 2) (by omega) (by omega)
        rw [show (((1 : Nat)) : Int) = 1 from rfl] at y1
        rw [show (((2 : Nat)) : Int) = 2 from rfl] at y2
        have hs : cntB (fun i => ledB (V1 406) r (n + i)) (k + 1) = cntB (fun i => ledB (V1 406) r (n + 1 + i)) k + (if ledB (V1 406) r n = true then 1 else 0) := by
          have := cntB_from (g := fun i => ledB (V1 406) r (n + i)) (a := 1) k
          rw [show 1 + k = k + 1 by omega] at this
          rw [this]
          have e : (fun k => (fun i => ledB (V1 406) r (n + i)) (1 + k)) = fun i => ledB (V1 406) r (n + 1 + i) := by funext i; show ledB _ r (n + (1 + i)) = _; rw [Nat.add_assoc]
          rw [e]
          show (0 + (if ledB (V1 406) r (n + 0) = true then 1 else 0)) + _ = _
          rw [Nat.add_zero, Int.zero_add, Int.add_comm]
        rw [show ((n + 1 : Nat) : Int) - 1 = (n : Int) by omega]
        refine u_98_42 ⟨fun h5 => by omega, fun _ => ⟨y1.2, ?_⟩⟩
        rw [y1.1, y2.1, wr_id (x := (n : Int) + (-1)) (by omega) (by omega), show (n : Int) + (-1) = (n : Int) - 1 by omega]
        refine ⟨fun h6 => ⟨y2.2, ?_⟩, fun h6 => ?_⟩
        · have hb : ledB (V1 406) r n = true := by unfold ledB; simpa using h6
          rw [wr_id (by omega) (by omega)]
          refine ih (k + 1) _ _ (by omega) (by rw [hs, if_pos hb, hc]) (Or.inr ⟨n, by omega, by omega, hb, fun i h1 h2 => by omega, rfl⟩)
        · have hb : ledB (V1 406) r n = false := by unfold ledB; simpa using h6
          refine ih (k + 1) _ _ (by omega) (by rw [hs, if_neg (by rw [hb]; decide), hc, Int.add_zero]) ?_
          rcases hf with ⟨f1, f2⟩ | ⟨m, m1, m2, m3, m4, m5⟩
          · refine Or.inl ⟨f1, fun i h1 h2 => ?_⟩
            by_cases e : i = n
            · subst e; exact hb
            · exact f2 i (by omega) h2
          · refine Or.inr ⟨m, by omega, m2, m3, fun i h1 h2 => ?_, m5⟩
            by_cases e : i = n
            · subst e; exact hb
            · exact m4 i (by omega) h2
    exact main N 0 0 (-1) (by omega) rfl (Or.inl ⟨rfl, fun i h1 h2 => by omega⟩)
  · rw [if_neg hr]
    rw [aIf_n hr] at h
    refine ⟨fun h5 => absurd rfl h5, fun _ => ?_⟩
    rintro V1 hV1
    have t0 : V1 405 0 = 1 := by rw [hV1]; exact v405.1
    exact ⟨fun h5 => by omega, fun _ => h V1 t0 (by rw [hV1]; exact v405.2.2)⟩
end READS
