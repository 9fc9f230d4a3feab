/-! ===== ACTS ===== -/
/-- the class has remembered -/
def Rem (V V' : xF) (nx a : Nat) : Prop := ∃ W, Cpd (115 + 11 * nx) 81 cpos V W ∧ V' = up2 (up2 W 70 7 (((nx + 1) % 12 : Nat) : Int)) 70 8 ((if a = 12 then 12 else a + 1 : Nat) : Int)
/-- an act of the class: what was remembered, and the row that holds now -/
def ActC (V : xF) (D : yD) (V1 : xF) (D1 : yD) (p' : Rw) : Prop := ∃ nx a V', nx < 12 ∧ a ≤ 12 ∧ V 70 7 = ((nx : Nat) : Int) ∧ V 70 8 = ((a : Nat) : Int) ∧ Rem V V' nx a ∧ (∀ b, coreA b = true → ¬ (81 ≤ b ∧ b ≤ 91) → V1 b = V' b) ∧ V1 405 = V' 405 ∧ V1 76 1 = V' 76 1 ∧ St V1 81 p' ∧ CorD (remD D nx) D1
/-- and of the model -/
def ActM (V V2 : xF) (a : Nat) (p' : Rw) : Prop := ∃ Va V', Cor V Va ∧ Remd Va V' a ∧ (V2 405 3 = V' 405 3 ∧ V2 405 6 = V' 405 6 ∧ V2 405 8 = V' 405 8 ∧ V2 405 12 = V' 405 12) ∧ (∀ b, coreA b = true → b ≠ 406 → V2 b = V' b) ∧ V2 76 1 = V' 76 1 ∧ (∀ k, k < 331 → V2 406 k = p' k) ∧ (∀ k, 331 ≤ k → V2 406 k = V' 406 k) ∧ (Bv V' → Bv V2)
section ACTS
variable {d : Nat} {V : xF} {D : yD} {Q : xRes → xF → yD → Prop} {p : Rw}
theorem Rem.at_ {V V' : xF} {nx a : Nat} (h : Rem V V' nx a) {b : Nat} (h1 : b ≠ 70) (h2 : b < 115 ∨ 246 < b) (hn : nx < 12) : V' b = V b := by
  obtain ⟨W, hC, e⟩ := h
  rw [e, up2_na h1, up2_na h1]
  exact hC.2 b (by omega)
theorem Rem.st {V V' : xF} {nx a : Nat} (h : Rem V V' nx a) (hn : nx < 12) {p : Rw} (hS : St V 81 p) : St V' 81 p := St.keep hS (fun k hk => h.at_ (by omega) (by omega) hn)
/-- what must be known of what can be undone, for an act -/
def PNx (V : xF) (D : yD) : Prop := (0 ≤ V 70 7 ∧ V 70 7 ≤ 11) ∧ (0 ≤ V 70 8 ∧ V 70 8 ≤ 12) ∧ D.2.1 81 ≠ 0
theorem c_act (hP : PNx V D) (h : ∀ V' nx a, nx < 12 → a ≤ 12 → V 70 7 = ((nx : Nat) : Int) → V 70 8 = ((a : Nat) : Int) → Rem V V' nx a → Q (.inl none) V' (remD D nx)) : RY d 256 0 [vr 70] [] V D Q := by
  obtain ⟨p1, p2, p3⟩ := hP
  have h7 : V 70 7 = (((V 70 7).toNat : Nat) : Int) := by omega
  have h8 : V 70 8 = (((V 70 8).toNat : Nat) : Int) := by omega
  exact c_remember h7 (by omega) h8 (by omega) p3 (fun V1 hC => h _ _ _ (by omega) (by omega) h7 h8 ⟨V1, hC, rfl⟩)
/-- cells that an act of the class may change -/
def actA (a : Nat) : Bool := (Nat.ble 81 a && Nat.ble a 91) || (!coreA a && (!Nat.beq a 405 && !Nat.beq a 76))
theorem ActC.of {V V' V1 : xF} {D D1 : yD} {nx a : Nat} {p' : Rw} {S : List Nat} (hn : nx < 12) (ha : a ≤ 12) (h7 : V 70 7 = ((nx : Nat) : Int)) (h8 : V 70 8 = ((a : Nat) : Int)) (hR : Rem V V' nx a) (F : Fr S V' V1) (hS : S.all actA = true) (hs : St V1 81 p') (hD : CorD (remD D nx) D1) : ActC V D V1 D1 p' := by
  have hk : ∀ b, b ∈ S → (81 ≤ b ∧ b ≤ 91) ∨ (coreA b = false ∧ b ≠ 405 ∧ b ≠ 76) := by
    intro b hb
    have := List.all_eq_true.mp hS b hb
    simp only [actA, Bool.or_eq_true, Bool.and_eq_true, Bool.not_eq_true', Nat.ble_eq] at this
    rcases this with h | ⟨h1, h2, h3⟩
    · exact Or.inl h
    · refine Or.inr ⟨h1, ?_, ?_⟩
      · rintro rfl; revert h2; decide
      · rintro rfl; revert h3; decide
  refine ⟨nx, a, V', hn, ha, h7, h8, hR, fun b hb hb2 => F b (fun hm => ?_), F 405 (fun hm => ?_), ?_, hs, hD⟩
  · rcases hk b hm with h | h
    · exact hb2 h
    · rw [h.1] at hb; cases hb
  · rcases hk 405 hm with h | h
    · omega
    · exact h.2.1 rfl
  · rw [F 76 (fun hm => by rcases hk 76 hm with h | h; omega; exact h.2.2 rfl)]
/-- the row with a cell told anew -/
def rup (p : Rw) (i : Nat) (z : Int) : Rw := fun k => if k = i then z else p k
theorem rup_n {p : Rw} {i k : Nat} {z : Int} (h : k ≠ i) : rup p i z k = p k := by unfold rup; rw [if_neg h]
theorem rup_a {p : Rw} {i : Nat} {z : Int} : rup p i z i = z := by unfold rup; rw [if_pos rfl]
/-- a cell of the model's row is told -/
theorem m_sets {i : Nat} {z : Int} {a : Nat} (hi : i < 331) (h6 : V 405 6 = (a : Int)) (ha : a ≤ 12) (h : ∀ V' V2, Remd V V' a → V2 = up2 V' 406 i z → Q (.inl (some (vi (V 406 i)))) V2 D) : RY d 165 0 [vr 405, vi (i : Int), vi z, vr 0] [] V D Q := by
  refine u_165_0 (m_remembers h6 ha (fun V' hR => u_165_4 ⟨by omega, by omega, ?_⟩))
  rintro V2 e
  rw [nn_toNat] at e ⊢
  have e4 : V' 406 = V 406 := hR.2.2.1 406 (by decide)
  rw [e4]
  exact h V' V2 hR e
theorem ActM.of {V Va V' V2 : xF} {a : Nat} {p' : Rw} {S : List Nat} (hC : Cor V Va) (hR : Remd Va V' a) (F : Fr S V' V2) (hS : S.all (fun b => Nat.beq b 406 || (!coreA b && (!Nat.beq b 405 && !Nat.beq b 76))) = true) (h1 : ∀ k, k < 331 → V2 406 k = p' k) (h2 : ∀ k, 331 ≤ k → V2 406 k = V' 406 k) : ActM V V2 a p' := by
  have hk : ∀ b, b ∈ S → b = 406 ∨ (coreA b = false ∧ b ≠ 405 ∧ b ≠ 76) := by
    intro b hb
    have := List.all_eq_true.mp hS b hb
    simp only [Bool.or_eq_true, Bool.and_eq_true, Bool.not_eq_true', Nat.beq_eq_true_eq] at this
    rcases this with h | ⟨h1, h2, h3⟩
    · first | exact Or.inl h | exact Or.inl (Nat.eq_of_beq_eq_true h)
    · refine Or.inr ⟨h1, ?_, ?_⟩
      · rintro rfl; revert h2; decide
      · rintro rfl; revert h3; decide
  have e5 : V2 405 = V' 405 := F 405 (fun hm => by rcases hk 405 hm with h | h; omega; exact h.2.1 rfl)
  refine ⟨Va, V', hC, hR, ⟨by rw [e5], by rw [e5], by rw [e5], by rw [e5]⟩, fun b hb h6 => F b (fun hm => ?_), ?_, h1, h2, ?_⟩
  · rcases hk b hm with h | h
    · exact h6 h
    · rw [h.1] at hb; cases hb
  · rw [F 76 (fun hm => by rcases hk 76 hm with h | h; omega; exact h.2.2 rfl)]
  · intro hb
    unfold Bv
    rw [e5]
    exact hb
theorem cut406 {V' : xF} {p : Rw} {i : Nat} {z : Int} (e : ∀ k, k < 331 → V' 406 k = p k) (hi : i < 331) : (∀ k, k < 331 → up2 V' 406 i z 406 k = rup p i z k) ∧ ∀ k, 331 ≤ k → up2 V' 406 i z 406 k = V' 406 k := by
  refine ⟨fun k hk => ?_, fun k hk => up2_ni (by omega)⟩
  rw [up2_a]
  unfold rup
  split
  · rfl
  · exact e k hk
/-! ===== what an act is, and what it answers ===== -/
/-- an act: what it answers, and the row behind it -/
abbrev aAct : Type := (Int × Rw) ⊕ Nat
def aR : aAct → aRes
  | .inl q => .inl q.1
  | .inr E => .inr E
noncomputable def sIf (c : Prop) (a b : aAct) : aAct := @ite _ c (Classical.propDecidable _) a b
theorem sIf_y {c : Prop} {a b : aAct} (h : c) : sIf c a b = a := by unfold sIf; rw [if_pos h]
theorem sIf_n {c : Prop} {a b : aAct} (h : ¬ c) : sIf c a b = b := by unfold sIf; rw [if_neg h]
/-- behind a call of the class that may act -/
def EndC (A : aAct) (V : xF) (D : yD) (V1 : xF) (D1 : yD) : Prop := match A with
  | .inl q => ActC V D V1 D1 q.2
  | .inr _ => Cor V V1 ∧ CorD D D1
def EndM (A : aAct) (a : Nat) (V V2 : xF) : Prop := match A with
  | .inl q => ActM V V2 a q.2
  | .inr _ => Cor V V2
/-! ===== HANG ===== -/
noncomputable def aHang (p : Rw) (r w s : Int) : aAct := sIf ((0 ≤ r ∧ r < p 3) ∧ (0 ≤ w ∧ w ≤ 3) ∧ (0 ≤ s ∧ s ≤ 4)) (.inl (rS p r.toNat w.toNat, rup p (18 + 7 * r.toNat + w.toNat) s)) (.inr 2)
theorem st_sort {s r w : Nat} {z : Int} (hS : St V s p) (hr : r < 5) (hw : w < 4) : St (up2 V (s + 3) (4 * r + w) z) s (rup p (18 + 7 * r + w) z) := by
  obtain ⟨g0, g1, g2, g3, g4, g5, g6, g7, g8, g9, g10, g12, g13, g14, g15, g16, g17, g18, g19, g20, g21, g22⟩ := hS
  have u : ∀ k, k ≠ 3 → up2 V (s + 3) (4 * r + w) z (s + k) = V (s + k) := fun k hk => up2_na (by omega)
  have u0 : up2 V (s + 3) (4 * r + w) z s = V s := u 0 (by omega)
  unfold St rW rD rS rR dB_ dO_ tP_ tW_ tL_ at *
  rw [u0, u 1 (by omega), u 2 (by omega), u 4 (by omega), u 5 (by omega), u 6 (by omega), u 7 (by omega), u 8 (by omega), u 9 (by omega), u 10 (by omega)]
  simp only [show ∀ k : Nat, k < 16 → rup p (18 + 7 * r + w) z k = p k from fun k hk => rup_n (by omega), Nat.reduceLT]
  refine ⟨g0, fun r' h => ?_, fun r' h => ?_, fun r' w' h h' => ?_, fun r' h => ?_, fun r' h => ?_, g6, fun t h => ?_, fun t h => ?_, fun t h => ?_, g10, g12, g13, g14, g15, g16, g17, g18, g19, g20, g21, fun k h => ?_⟩
  · rw [rup_n (by omega)]; exact g1 r' h
  · rw [rup_n (by omega)]; exact g2 r' h
  · rw [up2_a]
    by_cases e : 4 * r' + w' = 4 * r + w
    · rw [if_pos e, show 18 + 7 * r' + w' = 18 + 7 * r + w by omega, rup_a]
    · rw [if_neg e, rup_n (by omega)]; exact g3 r' w' h h'
  · rw [rup_n (by omega)]; exact g4 r' h
  · rw [rup_n (by omega), rup_n (by omega), rup_n (by omega), rup_n (by omega), rup_n (by omega)]; exact g5 r' h
  · rw [rup_n (by omega)]; exact g7 t h
  · rw [rup_n (by omega)]; exact g8 t h
  · rw [rup_n (by omega)]; exact g9 t h
  · rw [rup_n (by omega)]; exact g22 k h
theorem ca_hang {r w s : Int} (hP : PNx V D) (hS : St V 81 p) (hW : WF p) (h : ∀ V1 D1, EndC (aHang p r w s) V D V1 D1 → Q (cRes (aR (aHang p r w s))) V1 D1) : RY d 170 0 [vr 70, vi r, vi w, vi s, vr 0] [] V D Q := by
  unfold aHang at h
  have no : ¬ ((0 ≤ r ∧ r < p 3) ∧ (0 ≤ w ∧ w ≤ 3) ∧ (0 ≤ s ∧ s ≤ 4)) → Q (.inr 2) V (excD D) := fun hn => by
    rw [sIf_n hn] at h
    exact h V _ ⟨Cor.rf, CorD.exc⟩
  refine u_170_0 (c_needRoom hS (fun hr => ?_) (fun hr => ⟨rfl, no (fun hc => hr hc.1)⟩))
  refine u_170_5 ⟨fun h5 => no (by omega), fun h5 => ⟨fun h6 => no (by omega), fun h6 => ⟨fun h7 => no (by omega), fun h7 => ⟨fun h8 => ?_, fun h8 => no (by omega)⟩⟩⟩⟩
  rw [sIf_y ⟨hr, ⟨h5, h6⟩, h7, by omega⟩] at h
  obtain ⟨r5, er⟩ := hW.r5 hr
  refine c_act hP (fun V' nx a hn ha h7' h8' hR => u_170_35 ?_)
  rw [wr_id (x := 4 * r) (by omega) (by omega), wr_id (x := 4 * r + w) (by omega) (by omega), show (4 * r + w).toNat = 4 * r.toNat + w.toNat by omega]
  refine ⟨by omega, by omega, ?_⟩
  rintro V1 rfl
  have S' := hR.st hn hS
  have e84 : V' 84 (4 * r.toNat + w.toNat) = rS p r.toNat w.toNat := S'.2.2.2.1 r.toNat w.toNat r5 (by omega)
  rw [e84]
  exact h _ _ (ActC.of (S := [84]) hn ha h7' h8' hR (Fr.up (by decide)) (by decide) (st_sort (s := 81) S' r5 (by omega)) CorD.rf)
theorem ma_hang {r w s : Int} {a : Nat} (h6 : V 405 6 = (a : Int)) (ha : a ≤ 12) (hW : WF (V 406)) (h : ∀ V2, V2 405 0 = mCd 2 (aR (aHang (V 406) r w s)) → EndM (aHang (V 406) r w s) a V V2 → Q (.inl (some (vi (mVal (aR (aHang (V 406) r w s)))))) V2 D) : RY d 34 0 [vr 405, vi r, vi w, vi s] [] V D Q := by
  unfold aHang at h
  refine u_34_0 ⟨yg132, ?_⟩
  rw [yr132 hW, yr124, yr124]
  have no : ¬ ((0 ≤ r ∧ r < V 406 3) ∧ (0 ≤ w ∧ w ≤ 3) ∧ (0 ≤ s ∧ s ≤ 4)) → ∀ V1, V1 = up2 V 405 0 1 → (((V1 405 0) ≤ 0 → RY d 165 0 [vr 405, vi (wr ((wr ((wr ((16 : Int) + (wr ((7 : Int) * r)))) + 2)) + w)), vi s, vr 0] [] V1 D (yback d 34 62 [vr 405, vi r, vi w, vi s] [] Q)) ∧ ((0 : Int) < (V1 405 0) → Q (.inl (some (vi 0))) V1 D)) := fun hn V1 hV1 => by
    rw [sIf_n hn] at h
    have t0 : V1 405 0 = 1 := by rw [hV1]; exact v405.1
    exact ⟨fun h5 => by omega, fun _ => h V1 t0 (by rw [hV1]; exact v405.2.2)⟩
  by_cases hr : 0 ≤ r ∧ r < V 406 3
  · rw [if_pos hr]
    refine ⟨fun h5 => absurd h5 (by decide), fun _ => ?_⟩
    by_cases hw : 0 ≤ w ∧ w ≤ 3
    · rw [if_pos hw]
      refine ⟨fun h5 => absurd h5 (by decide), fun _ => ?_⟩
      by_cases hs : 0 ≤ s ∧ s ≤ 4
      · rw [if_pos hs]
        refine ⟨fun _ => ?_, fun h5 => absurd h5 (by decide)⟩
        rw [sIf_y ⟨hr, hw, hs⟩] at h
        rintro V1 hV1
        have t0 : V1 405 0 = 0 := by rw [hV1]; exact v405.1
        have e6 : V1 406 = V 406 := by rw [hV1]; exact v405.2.1
        have e5 : V1 405 6 = (a : Int) := by rw [hV1, up2_ni (by decide)]; exact h6
        have C1 : Cor V V1 := by rw [hV1]; exact v405.2.2
        obtain ⟨r5, er⟩ := hW.r5 hr
        refine ⟨fun _ => ?_, fun h5 => by omega⟩
        have ei : wr ((wr ((wr ((16 : Int) + (wr ((7 : Int) * r)))) + 2)) + w) = (((18 + 7 * r.toNat + w.toNat : Nat)) : Int) := by
          rw [wr_id (x := 7 * r) (by omega) (by omega), wr_id (x := 16 + 7 * r) (by omega) (by omega), wr_id (x := 16 + 7 * r + 2) (by omega) (by omega), wr_id (by omega) (by omega)]
          omega
        rw [ei]
        refine m_sets (by omega) e5 ha (fun V' V2 hR e => u_34_62 ?_)
        rw [e6]
        have hk : ∀ k, k < 331 → V' 406 k = V 406 k := fun k hk => by rw [hR.2.2.1 406 (by decide), e6]
        have hc := cut406 (z := s) hk (show 18 + 7 * r.toNat + w.toNat < 331 by omega)
        rw [← e] at hc
        exact h V2 (by rw [e, up2_na (by decide), hR.2.1 0 (by decide)]; exact t0) (ActM.of (S := [406]) C1 hR (by rw [e]; exact Fr.up (by decide)) (by decide) hc.1 hc.2)
      · rw [if_neg hs]
        exact ⟨fun h5 => absurd rfl h5, fun _ => no (fun hc => hs hc.2.2)⟩
    · rw [if_neg hw]
      exact ⟨fun _ => no (fun hc => hw hc.2.1), fun h5 => absurd rfl h5⟩
  · rw [if_neg hr]
    exact ⟨fun _ => no (fun hc => hr hc.1), fun h5 => absurd rfl h5⟩
/-! ===== RENT ===== -/
noncomputable def aRent (p : Rw) (r n : Int) : aAct := sIf (0 ≤ r ∧ r < p 3) (sIf (0 ≤ n ∧ n ≤ 99) (.inl (rR p r.toNat, rup p (22 + 7 * r.toNat) n)) (.inr 0)) (.inr 2)
theorem st_rent {s r : Nat} {z : Int} (hS : St V s p) (hr : r < 5) : St (up2 V (s + 4) r z) s (rup p (22 + 7 * r) z) := by
  obtain ⟨g0, g1, g2, g3, g4, g5, g6, g7, g8, g9, g10, g12, g13, g14, g15, g16, g17, g18, g19, g20, g21, g22⟩ := hS
  have u : ∀ k, k ≠ 4 → up2 V (s + 4) r z (s + k) = V (s + k) := fun k hk => up2_na (by omega)
  have u0 : up2 V (s + 4) r z s = V s := u 0 (by omega)
  unfold St rW rD rS rR dB_ dO_ tP_ tW_ tL_ at *
  rw [u0, u 1 (by omega), u 2 (by omega), u 3 (by omega), u 5 (by omega), u 6 (by omega), u 7 (by omega), u 8 (by omega), u 9 (by omega), u 10 (by omega)]
  simp only [show ∀ k : Nat, k < 16 → rup p (22 + 7 * r) z k = p k from fun k hk => rup_n (by omega), Nat.reduceLT]
  refine ⟨g0, fun r' h => ?_, fun r' h => ?_, fun r' w' h h' => ?_, fun r' h => ?_, fun r' h => ?_, g6, fun t h => ?_, fun t h => ?_, fun t h => ?_, g10, g12, g13, g14, g15, g16, g17, g18, g19, g20, g21, fun k h => ?_⟩
  · rw [rup_n (by omega)]; exact g1 r' h
  · rw [rup_n (by omega)]; exact g2 r' h
  · rw [rup_n (by omega)]; exact g3 r' w' h h'
  · rw [up2_a]
    by_cases e : r' = r
    · subst e; rw [if_pos rfl, rup_a]
    · rw [if_neg e, rup_n (by omega)]; exact g4 r' h
  · rw [rup_n (by omega), rup_n (by omega), rup_n (by omega), rup_n (by omega), rup_n (by omega)]; exact g5 r' h
  · rw [rup_n (by omega)]; exact g7 t h
  · rw [rup_n (by omega)]; exact g8 t h
  · rw [rup_n (by omega)]; exact g9 t h
  · rw [rup_n (by omega)]; exact g22 k h
theorem c_needNumber {n lo hi : Int} (h1 : lo ≤ n → n ≤ hi → Q (.inl none) V D) (h2 : ¬ (lo ≤ n ∧ n ≤ hi) → Q (.inr 0) V (excD D)) : RY d 255 0 [vr 70, vi n, vi lo, vi hi] [] V D Q :=
  u_255_0 ⟨fun h5 => h2 (by omega), fun h5 => ⟨fun h6 => h1 h5 h6, fun h6 => h2 (by omega)⟩⟩
theorem c_needTenant {t : Int} (hS : St V 81 p) (h1 : 0 ≤ t → t < p 4 → Q (.inl none) V D) (h2 : ¬ (0 ≤ t ∧ t < p 4) → Q (.inr 2) V (excD D)) : RY d 242 0 [vr 70, vi t] [] V D Q := by
  have e := hS.tens
  exact u_242_0 ⟨fun h5 => h2 (by omega), fun h5 => ⟨fun h6 => h1 h5 (by omega), fun h6 => h2 (by omega)⟩⟩
theorem ca_rent {r n : Int} (hP : PNx V D) (hS : St V 81 p) (hW : WF p) (h : ∀ V1 D1, EndC (aRent p r n) V D V1 D1 → Q (cRes (aR (aRent p r n))) V1 D1) : RY d 173 0 [vr 70, vi r, vi n, vr 0] [] V D Q := by
  unfold aRent at h
  refine u_173_0 (c_needRoom hS (fun hr => ?_) (fun hr => ⟨rfl, by rw [sIf_n hr] at h; exact h V _ ⟨Cor.rf, CorD.exc⟩⟩))
  rw [sIf_y hr] at h
  refine u_173_5 (c_needNumber (fun h5 h6 => ?_) (fun hn => ⟨rfl, by rw [sIf_n hn] at h; exact h V _ ⟨Cor.rf, CorD.exc⟩⟩))
  rw [sIf_y ⟨h5, h6⟩] at h
  obtain ⟨r5, er⟩ := hW.r5 hr
  refine u_173_13 (c_act hP (fun V' nx a hn ha h7' h8' hR => u_173_17 ⟨by omega, by omega, ?_⟩))
  rintro V1 rfl
  have S' := hR.st hn hS
  have e85 : V' 85 r.toNat = rR p r.toNat := S'.2.2.2.2.1 r.toNat r5
  rw [e85]
  exact h _ _ (ActC.of (S := [85]) hn ha h7' h8' hR (Fr.up (by decide)) (by decide) (st_rent (s := 81) S' r5) CorD.rf)
theorem ma_rent {r n : Int} {a : Nat} (h6 : V 405 6 = (a : Int)) (ha : a ≤ 12) (hW : WF (V 406)) (h : ∀ V2, V2 405 0 = mCd 2 (aR (aRent (V 406) r n)) → EndM (aRent (V 406) r n) a V V2 → Q (.inl (some (vi (mVal (aR (aRent (V 406) r n)))))) V2 D) : RY d 38 0 [vr 405, vi r, vi n] [] V D Q := by
  unfold aRent at h
  refine u_38_0 ⟨yg132, ?_⟩
  rw [yr132 hW, yr124]
  by_cases hr : 0 ≤ r ∧ r < V 406 3
  · rw [if_pos hr]
    rw [sIf_y hr] at h
    refine ⟨fun _ => ?_, fun h5 => absurd h5 (by decide)⟩
    by_cases hn : 0 ≤ n ∧ n ≤ 99
    · rw [if_pos hn]
      rw [sIf_y hn] at h
      refine ⟨fun _ => ?_, fun h5 => absurd h5 (by decide)⟩
      rintro V1 hV1
      have t0 : V1 405 0 = 0 := by rw [hV1]; exact v405.1
      have e6 : V1 406 = V 406 := by rw [hV1]; exact v405.2.1
      have e5 : V1 405 6 = (a : Int) := by rw [hV1, up2_ni (by decide)]; exact h6
      have C1 : Cor V V1 := by rw [hV1]; exact v405.2.2
      obtain ⟨r5, er⟩ := hW.r5 hr
      refine ⟨fun _ => ?_, fun h5 => by omega⟩
      have ei : wr ((wr ((16 : Int) + (wr ((7 : Int) * r)))) + 6) = (((22 + 7 * r.toNat : Nat)) : Int) := by
        rw [wr_id (x := 7 * r) (by omega) (by omega), wr_id (x := 16 + 7 * r) (by omega) (by omega), wr_id (by omega) (by omega)]
        omega
      rw [ei]
      refine m_sets (by omega) e5 ha (fun V' V2 hR e => u_38_57 ?_)
      rw [e6]
      have hk : ∀ k, k < 331 → V' 406 k = V 406 k := fun k hk => by rw [hR.2.2.1 406 (by decide), e6]
      have hc := cut406 (z := n) hk (show 22 + 7 * r.toNat < 331 by omega)
      rw [← e] at hc
      exact h V2 (by rw [e, up2_na (by decide), hR.2.1 0 (by decide)]; exact t0) (ActM.of (S := [406]) C1 hR (by rw [e]; exact Fr.up (by decide)) (by decide) hc.1 hc.2)
    · rw [if_neg hn]
      rw [sIf_n hn] at h
      refine ⟨fun h5 => absurd rfl h5, fun _ => ?_⟩
      rintro V1 hV1
      have t0 : V1 405 0 = 2 := by rw [hV1]; exact v405.1
      exact ⟨fun h5 => by omega, fun _ => h V1 t0 (by rw [hV1]; exact v405.2.2)⟩
  · rw [if_neg hr]
    rw [sIf_n hr] at h
    refine ⟨fun h5 => absurd rfl h5, fun _ => ?_⟩
    rintro V1 hV1
    have t0 : V1 405 0 = 1 := by rw [hV1]; exact v405.1
    exact ⟨fun h5 => by omega, fun _ => h V1 t0 (by rw [hV1]; exact v405.2.2)⟩
/-! ===== ENTER ===== -/
def enR (p : Rw) (r : Nat) : Rw := rup (rup (rup p 5 (r : Int)) 6 (rW p r / 2)) 7 (rD p r / 2)
noncomputable def aEnter (p : Rw) (r : Int) : aAct := sIf (0 ≤ r ∧ r < p 3) (.inl (p 5, enR p r.toNat)) (.inr 2)
/-- where one stands, told anew -/
theorem st_seat {s : Nat} {r x y : Int} (hS : St V s p) (hr : r ≠ -1) : St (up2 (up2 V s 12 r) s 13 (16 * x + y)) s (rup (rup (rup p 5 r) 6 x) 7 y) := by
  obtain ⟨g0, g1, g2, g3, g4, g5, g6, g7, g8, g9, g10, g12, g13, g14, g15, g16, g17, g18, g19, g20, g21, g22⟩ := hS
  have u : ∀ k, k ≠ 0 → up2 (up2 V s 12 r) s 13 (16 * x + y) (s + k) = V (s + k) := fun k hk => by rw [up2_na (by omega), up2_na (by omega)]
  have u0 : ∀ k, k ≠ 12 → k ≠ 13 → up2 (up2 V s 12 r) s 13 (16 * x + y) s k = V s k := fun k h1 h2 => by rw [up2_ni h2, up2_ni h1]
  have q : ∀ k, k ≠ 5 → k ≠ 6 → k ≠ 7 → rup (rup (rup p 5 r) 6 x) 7 y k = p k := fun k h1 h2 h3 => by rw [rup_n h3, rup_n h2, rup_n h1]
  unfold St rW rD rS rR dB_ dO_ tP_ tW_ tL_ at *
  rw [u 1 (by omega), u 2 (by omega), u 3 (by omega), u 4 (by omega), u 5 (by omega), u 6 (by omega), u 7 (by omega), u 8 (by omega), u 9 (by omega), u 10 (by omega), u0 0 (by omega) (by omega), u0 6 (by omega) (by omega), u0 10 (by omega) (by omega), u0 14 (by omega) (by omega), u0 15 (by omega) (by omega), u0 16 (by omega) (by omega), u0 17 (by omega) (by omega), u0 18 (by omega) (by omega), u0 19 (by omega) (by omega),
    q 3 (by omega) (by omega) (by omega), q 4 (by omega) (by omega) (by omega), q 0 (by omega) (by omega) (by omega), q 8 (by omega) (by omega) (by omega), q 9 (by omega) (by omega) (by omega), q 10 (by omega) (by omega) (by omega), q 11 (by omega) (by omega) (by omega), q 12 (by omega) (by omega) (by omega), q 13 (by omega) (by omega) (by omega), q 14 (by omega) (by omega) (by omega), q 15 (by omega) (by omega) (by omega)]
  have q5 : rup (rup (rup p 5 r) 6 x) 7 y 5 = r := by rw [rup_n (by omega), rup_n (by omega), rup_a]
  have q6 : rup (rup (rup p 5 r) 6 x) 7 y 6 = x := by rw [rup_n (by omega), rup_a]
  have q7 : rup (rup (rup p 5 r) 6 x) 7 y 7 = y := rup_a
  rw [q5, q6, q7, if_neg hr]
  refine ⟨g0, fun r' h => ?_, fun r' h => ?_, fun r' w' h h' => ?_, fun r' h => ?_, fun r' h => ?_, g6, fun t h => ?_, fun t h => ?_, fun t h => ?_, g10, by rw [up2_ni (by omega), up2_at], up2_at _ _ _ _, g14, g15, g16, g17, g18, g19, g20, g21, fun k h => ?_⟩
  · rw [q _ (by omega) (by omega) (by omega)]; exact g1 r' h
  · rw [q _ (by omega) (by omega) (by omega)]; exact g2 r' h
  · rw [q _ (by omega) (by omega) (by omega)]; exact g3 r' w' h h'
  · rw [q _ (by omega) (by omega) (by omega)]; exact g4 r' h
  · rw [q _ (by omega) (by omega) (by omega), q _ (by omega) (by omega) (by omega), q _ (by omega) (by omega) (by omega), q _ (by omega) (by omega) (by omega), q _ (by omega) (by omega) (by omega)]; exact g5 r' h
  · rw [q _ (by omega) (by omega) (by omega)]; exact g7 t h
  · rw [q _ (by omega) (by omega) (by omega)]; exact g8 t h
  · rw [q _ (by omega) (by omega) (by omega)]; exact g9 t h
  · rw [q _ (by omega) (by omega) (by omega)]; exact g22 k h
theorem ca_enter {r : Int} (hP : PNx V D) (hS : St V 81 p) (hW : WF p) (h : ∀ V1 D1, EndC (aEnter p r) V D V1 D1 → Q (cRes (aR (aEnter p r))) V1 D1) : RY d 166 0 [vr 70, vi r, vr 0] [] V D Q := by
  unfold aEnter at h
  refine u_166_0 (c_needRoom hS (fun hr => ?_) (fun hr => ⟨rfl, by rw [sIf_n hr] at h; exact h V _ ⟨Cor.rf, CorD.exc⟩⟩))
  rw [sIf_y hr] at h
  obtain ⟨r5, er⟩ := hW.r5 hr
  obtain ⟨-, hw, hd⟩ := hW.room (r := r.toNat) (by omega)
  refine u_166_5 (c_act hP (fun V' nx a hn ha h7' h8' hR => u_166_9 ?_))
  rintro V1 rfl
  have S' := hR.st hn hS
  have e12 : V' 81 12 = p 5 := S'.2.2.2.2.2.2.2.2.2.2.2.1
  have e82 : V' 82 r.toNat = rW p r.toNat := S'.2.1 r.toNat r5
  have e83 : V' 83 r.toNat = rD p r.toNat := S'.2.2.1 r.toNat r5
  have em : yr_211_81 r (up2 V' 81 12 r) (remD D nx) = 16 * (rW p r.toNat / 2) + rD p r.toNat / 2 := by
    unfold yr_211_81
    rw [up2_na (by decide), up2_na (by decide), e82, e83, tdiv_nn (by omega), tdiv_nn (by omega), wr_id (x := rW p r.toNat / 2) (by omega) (by omega), wr_id (x := rD p r.toNat / 2) (by omega) (by omega), yr265 (by omega) (by omega)]
  refine ⟨?_, ?_⟩
  · unfold yg_211_81
    omega
  · rintro V2 rfl
    rw [em, e12]
    have hst := st_seat (s := 81) (r := r) (x := rW p r.toNat / 2) (y := rD p r.toNat / 2) S' (by omega)
    refine h _ _ (ActC.of (S := [81]) hn ha h7' h8' hR ((Fr.up (by decide)).tr (Fr.up (by decide))) (by decide) ?_ CorD.rf)
    show St _ 81 (enR p r.toNat)
    unfold enR
    rw [er]
    exact hst
theorem ma_enter {r : Int} {a : Nat} (h6 : V 405 6 = (a : Int)) (ha : a ≤ 12) (hW : WF (V 406)) (h : ∀ V2, V2 405 0 = mCd 2 (aR (aEnter (V 406) r)) → EndM (aEnter (V 406) r) a V V2 → Q (.inl (some (vi (mVal (aR (aEnter (V 406) r)))))) V2 D) : RY d 30 0 [vr 405, vi r, vr 0] [] V D Q := by
  unfold aEnter at h
  refine u_30_0 ⟨yg132, ?_⟩
  rw [yr132 hW]
  by_cases hr : 0 ≤ r ∧ r < V 406 3
  · rw [if_pos hr]
    rw [sIf_y hr] at h
    refine ⟨fun _ => ?_, fun h5 => absurd h5 (by decide)⟩
    rintro V1 hV1
    have t0 : V1 405 0 = 0 := by rw [hV1]; exact v405.1
    have e6 : V1 406 = V 406 := by rw [hV1]; exact v405.2.1
    have e5 : V1 405 6 = (a : Int) := by rw [hV1, up2_ni (by decide)]; exact h6
    have C1 : Cor V V1 := by rw [hV1]; exact v405.2.2
    obtain ⟨r5, er⟩ := hW.r5 hr
    obtain ⟨-, hw, hd⟩ := hW.room (r := r.toNat) (by omega)
    refine ⟨fun _ => ?_, fun h5 => by omega⟩
    refine m_sets (i := 5) (by omega) e5 ha (fun V' V2 hR e => u_30_32 ?_)
    have hk : ∀ k, k < 331 → V' 406 k = V 406 k := fun k hk => by rw [hR.2.2.1 406 (by decide), e6]
    have hc := cut406 (z := r) hk (show 5 < 331 by omega)
    rw [← e] at hc
    rw [← er]
    have eW : yr_133 ((r.toNat : Nat) : Int) 0 V2 D = rW (V 406) r.toNat := by
      rw [yr133_0 r5]
      show V2 406 (16 + 7 * r.toNat) = V 406 (16 + 7 * r.toNat)
      rw [hc.1 _ (by omega), rup_n (by omega)]
    rw [eW, tdiv_nn (by omega), wr_id (by omega) (by omega)]
    refine ⟨yg133 r5 (by omega), ?_⟩
    rintro V3 e3
    have hc3 := cut406 (i := 6) (z := rW (V 406) r.toNat / 2) hc.1 (by omega)
    rw [← e3] at hc3
    have eD : yr_133 ((r.toNat : Nat) : Int) 1 V3 D = rD (V 406) r.toNat := by
      rw [yr133_1 r5]
      show V3 406 (17 + 7 * r.toNat) = V 406 (17 + 7 * r.toNat)
      rw [hc3.1 _ (by omega), rup_n (by omega), rup_n (by omega)]
    rw [eD, tdiv_nn (by omega), wr_id (by omega) (by omega)]
    refine ⟨yg133 r5 (by omega), ?_⟩
    rintro V4 e4
    have hc4 := cut406 (i := 7) (z := rD (V 406) r.toNat / 2) hc3.1 (by omega)
    rw [← e4] at hc4
    rw [e6]
    refine h V4 ?_ (ActM.of (S := [406]) C1 hR ?_ (by decide) ?_ ?_)
    · rw [e4, up2_na (by decide), e3, up2_na (by decide), e, up2_na (by decide), hR.2.1 0 (by decide)]; exact t0
    · rw [e4, e3, e]; exact ((Fr.up (by decide)).tr (Fr.up (by decide))).tr (Fr.up (by decide))
    · intro k hk
      rw [hc4.1 k hk]
      show _ = enR (V 406) r.toNat k
      unfold enR
      rw [er]
    · intro k hk; rw [hc4.2 k hk, hc3.2 k hk, hc.2 k hk]
  · rw [if_neg hr]
    rw [sIf_n hr] at h
    refine ⟨fun h5 => absurd rfl h5, fun _ => ?_⟩
    rintro V1 hV1
    have t0 : V1 405 0 = 1 := by rw [hV1]; exact v405.1
    exact ⟨fun h5 => by omega, fun _ => h V1 t0 (by rw [hV1]; exact v405.2.2)⟩
end ACTS
