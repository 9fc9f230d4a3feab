/-! ===== THE BEST ROOM, ESTEEM, REFUSES, MOVES ===== -/
abbrev eR (p : Rw) (ls : List Ln) (t r : Nat) : Int := eS p ls t r (rR p r)
abbrev rFR (p : Rw) (ls : List Ln) (t r : Nat) : Bool := rF p ls t r (rR p r)
def bo (E : Nat → Int) (ok : Nat → Bool) : Nat → Int × Int
  | 0 => (-1, 0)
  | n + 1 => if ok n = true ∧ ((bo E ok n).1 = -1 ∨ (bo E ok n).2 < E n) then ((n : Int), E n) else bo E ok n
theorem bo_cong {E : Nat → Int} {ok ok' : Nat → Bool} : ∀ {n : Nat}, (∀ i, i < n → ok i = ok' i) → bo E ok n = bo E ok' n
  | 0, _ => rfl
  | n + 1, h => by
    unfold bo
    rw [h n (by omega), bo_cong (fun i hi => h i (by omega))]
theorem bo_b {E : Nat → Int} {ok : Nat → Bool} : ∀ (n : Nat), (bo E ok n).1 = -1 ∨ ∃ m : Nat, (bo E ok n).1 = (m : Int) ∧ m < n ∧ ok m = true
  | 0 => Or.inl rfl
  | n + 1 => by
    unfold bo
    split
    · rename_i h
      exact Or.inr ⟨n, rfl, by omega, h.1⟩
    · rcases bo_b (E := E) (ok := ok) n with h | ⟨m, h1, h2, h3⟩
      · exact Or.inl h
      · exact Or.inr ⟨m, h1, by omega, h3⟩
def beF (p : Rw) (ls : List Ln) (bar : Int) (t : Nat) : Int := (bo (eR p ls t) (fun r => !tb bar r && !rFR p ls t r) (p 3).toNat).1
def moveB (p : Rw) (ls : List Ln) (t : Nat) : Bool := decide (beF p ls 0 t ≠ -1 ∧ beF p ls 0 t ≠ tL_ p t) && (if tL_ p t = -1 then decide (0 ≤ eR p ls t (beF p ls 0 t).toNat) else decide (eR p ls t (tL_ p t).toNat < eR p ls t (beF p ls 0 t).toNat))
def movesF (p : Rw) (ls : List Ln) : Int := bitsT (moveB p ls) (p 4).toNat
def trP (p : Rw) (t r : Int) : Prop := (0 ≤ t ∧ t < p 4) ∧ 0 ≤ r ∧ r < p 3
noncomputable def aEsteem (p : Rw) (ls : List Ln) (t r : Int) : aRes := aIf (trP p t r) (.inl (eR p ls t.toNat r.toNat)) (.inr 2)
noncomputable def aRefuses (p : Rw) (ls : List Ln) (t r : Int) : aRes := aIf (trP p t r) (.inl (if rFR p ls t.toNat r.toNat = true then 1 else 0)) (.inr 2)
/-- the scratch of Lettings -/
abbrev FL : List Nat := [254, 255, 391, 392, 393, 394, 395, 396, 397, 398, 399, 400, 401, 402, 403, 404]
abbrev FM : List Nat := [391, 394, 395, 396, 397, 398, 399, 400, 401, 402, 403, 404]
theorem LC.k {V V' : xF} {D : yD} {S : Nat} {p : Rw} {ls : List Ln} (h : LC S V D p ls) (hF : Fr FM V V') (hS : S ≤ 380) : LC S V' D p ls := h.fr hF (by decide) hS
theorem tb0 {j : Nat} : tb 0 j = false := by
  unfold tb
  show Nat.testBit 0 j = false
  simp
/-- what the model's lettings work on -/
def MC (V : xF) (p : Rw) (ls : List Ln) : Prop := V 406 = p ∧ WF p ∧ TXT p ls ∧ Ws V
theorem askF.rf {V : xF} (hB : Bv V) : askF V V := ⟨Fr.rf, fun _ _ => rfl, hB⟩
theorem askF.tr {V V' V2 : xF} (h : askF V V') (h' : askF V' V2) : askF V V2 := ⟨h.1.tr h'.1, fun k hk => (h'.2.1 k hk).trans (h.2.1 k hk), h'.2.2⟩
theorem MC.k {V V' : xF} {p : Rw} {ls : List Ln} (h : MC V p ls) (hF : askF V V') : MC V' p ls := by
  obtain ⟨h1, h2, h3, h4⟩ := h
  exact ⟨by rw [hF.1.at_ 406 (by decide)]; exact h1, h2, h3, fun a g1 g2 j => by rw [hF.1.at_ a (by simp; omega)]; exact h4 a g1 g2 j⟩
theorem MC.c {V V' : xF} {p : Rw} {ls : List Ln} (h : MC V p ls) (hF : Cor V V') : MC V' p ls := by
  obtain ⟨h1, h2, h3, h4⟩ := h
  refine ⟨by rw [hF.at_ 406 rfl]; exact h1, h2, h3, fun a g1 g2 j => ?_⟩
  have : coreA a = true := by
    unfold coreA
    rw [show Nat.blt a 76 = true by rw [Nat.blt_eq]; omega]
    rfl
  rw [hF.at_ a this]
  exact h4 a g1 g2 j
section BEST
variable {d : Nat} {V : xF} {D : yD} {Q : xRes → xF → yD → Prop} {p : Rw} {ls : List Ln}
theorem WF.rent (hW : WF p) {r : Nat} (hr : (r : Int) < p 3) : 0 ≤ rR p r ∧ rR p r ≤ 99 := (hW.2.2.2.2.2.2.2.2.2.2.2.1 r hr).2.2.2
theorem lc_hear_81 (hS : St V 81 p) (hB : V 2 = xback5) (hW : WF p) (hO : LO V D (D.2.1 81) ls) (h : ∀ V', LC 81 V' D p ls → Fr FL V V' → Q (.inl none) V' D) : RY d 204 0 [vr 390, vr 81, vr 0, vr 0] [] V D Q := by
  refine c_hear_81 hS hB hW fun V' hH hF => h V' ⟨hS.keep fun k hk => hF _ (by simp; omega), hW, hO.cor fun a ha => hF a (by simp; omega), hH⟩ (hF.sub (by decide))
theorem LC.rn_81 (hL : LC 81 V D p ls) {r : Nat} (hr : r < 5) : V 85 r = rR p r := hL.1.2.2.2.2.1 r hr
theorem c_best_81 (hL : LC 81 V D p ls) {t : Nat} {bar : Int} (ht : (t : Int) < p 4) (hbar : 0 ≤ bar ∧ bar < 32)
    (h : ∀ V', Fr [394] V V' → Q (.inl (some (vi (beF p ls bar t)))) V' D) : RY d 281 0 [vr 390, vr 81, vi (t : Int), vi bar, vr 0, vr 0, vr 0, vr 0] [] V D Q := by
  have h3 := hL.2.1.1
  refine u_281_0_81 ?_
  have go : ∀ (n k : Nat) (V1 : xF) (v7 : xV), (n : Int) + k = p 3 → Fr [394] V V1 → RY d 281 9 [vr 390, vr 81, vi (t : Int), vi bar, vi (bo (eR p ls t) (fun r => !tb bar r && !rFR p ls t r) k).1, vi (bo (eR p ls t) (fun r => !tb bar r && !rFR p ls t r) k).2, vi (k : Int), v7] [] V1 D Q := by
    intro n
    induction n with
    | zero =>
      intro k V1 v7 hk hF
      have hL1 := hL.fr hF (by decide) (by decide)
      refine u_281_9_81 ⟨fun _ => ?_, fun hlt => ?_⟩
      · have := h V1 hF
        unfold beF at this
        rw [show (p 3).toNat = k by omega] at this
        exact this
      · rw [hL1.1.rooms] at hlt
        omega
    | succ n ih =>
      intro k V1 v7 hk hF
      have hL1 := hL.fr hF (by decide) (by decide)
      have hr : (k : Int) < p 3 := by omega
      have hk5 : k < 5 := by omega
      have e1 : wr ((k : Int) + 1) = ((k + 1 : Nat) : Int) := by rw [wr_id (by omega) (by omega)]; omega
      have hu : bo (eR p ls t) (fun r => !tb bar r && !rFR p ls t r) (k + 1) = if (!tb bar k && !rFR p ls t k) = true ∧ ((bo (eR p ls t) (fun r => !tb bar r && !rFR p ls t r) k).1 = -1 ∨ (bo (eR p ls t) (fun r => !tb bar r && !rFR p ls t r) k).2 < eR p ls t k) then ((k : Int), eR p ls t k) else bo (eR p ls t) (fun r => !tb bar r && !rFR p ls t r) k := rfl
      have no : ∀ (V2 : xF) (v : xV), Fr [394] V V2 → ¬ ((!tb bar k && !rFR p ls t k) = true ∧ ((bo (eR p ls t) (fun r => !tb bar r && !rFR p ls t r) k).1 = -1 ∨ (bo (eR p ls t) (fun r => !tb bar r && !rFR p ls t r) k).2 < eR p ls t k)) → RY d 281 9 [vr 390, vr 81, vi (t : Int), vi bar, vi (bo (eR p ls t) (fun r => !tb bar r && !rFR p ls t r) k).1, vi (bo (eR p ls t) (fun r => !tb bar r && !rFR p ls t r) k).2, vi (wr ((k : Int) + 1)), v] [] V2 D Q := by
        intro V2 v hF2 hn
        have := ih (k + 1) V2 v (by clear e1; omega) hF2
        rw [hu, if_neg hn] at this
        rw [e1]
        exact this
      have yes : ∀ (V2 : xF) (v : xV), Fr [394] V V2 → ((!tb bar k && !rFR p ls t k) = true ∧ ((bo (eR p ls t) (fun r => !tb bar r && !rFR p ls t r) k).1 = -1 ∨ (bo (eR p ls t) (fun r => !tb bar r && !rFR p ls t r) k).2 < eR p ls t k)) → RY d 281 9 [vr 390, vr 81, vi (t : Int), vi bar, vi (k : Int), vi (eR p ls t k), vi (wr ((k : Int) + 1)), v] [] V2 D Q := by
        intro V2 v hF2 hn
        have := ih (k + 1) V2 v (by clear e1; omega) hF2
        rw [hu, if_pos hn] at this
        rw [e1]
        exact this
      clear e1 hu ih
      refine u_281_9_81 ⟨fun hle => ?_, fun _ => ⟨fun hb => ?_, fun hb => ⟨by omega, ?_⟩⟩⟩
      · rw [hL1.1.rooms] at hle
        omega
      · rw [bit_tb hbar hk5] at hb
        have hb : tb bar k = true := Classical.byContradiction fun g => hb (if_neg g)
        exact no V1 _ hF fun g => by have := g.1; rw [hb] at this; exact absurd this (by simp)
      · rw [bit_tb hbar hk5] at hb
        have hb : tb bar k = false := by
          cases hx : tb bar k
          · rfl
          · rw [hx] at hb; exact absurd hb (by decide)
        rw [nn_toNat, hL1.rn_81 hk5]
        refine c_rf_81 hL1 ht hr fun V2 hF2 => ?_
        show RY d 281 42 _ _ V2 D Q
        have hL2 := hL1.fr hF2 (by decide) (by decide)
        refine u_281_42_81 ⟨fun hf => ?_, fun hf => ⟨by omega, ?_⟩⟩
        · have hf : rFR p ls t k = true := Classical.byContradiction fun g => hf (if_neg g)
          exact no V2 _ (hF.tr hF2) fun g => by have := g.1; rw [hf] at this; exact absurd this (by simp)
        · have hf : rFR p ls t k = false := by
            cases hx : rFR p ls t k
            · rfl
            · rw [show rF p ls t k (rR p k) = true from hx] at hf; exact absurd hf (by decide)
          have hok : (!tb bar k && !rFR p ls t k) = true := by rw [hb, hf]; rfl
          rw [nn_toNat, hL2.rn_81 hk5]
          refine c_es_81 hL2 ht hr (hL.2.1.rent hr) fun V3 hF3 => ?_
          show RY d 281 60 _ _ V3 D Q
          refine u_281_60_81 ⟨fun hm => ?_, fun hm => ⟨fun hle => ?_, fun hlt => ?_⟩⟩
          · exact yes V3 _ ((hF.tr hF2).tr hF3) ⟨hok, Or.inl hm⟩
          · exact no V3 _ ((hF.tr hF2).tr hF3) fun g => g.2.elim hm (Int.not_lt.mpr hle)
          · exact yes V3 _ ((hF.tr hF2).tr hF3) ⟨hok, Or.inr hlt⟩
  exact go (p 3).toNat 0 V _ (by omega) Fr.rf
theorem lc_hear_92 (hS : St V 92 p) (hB : V 2 = xback5) (hW : WF p) (hO : LO V D (D.2.1 92) ls) (h : ∀ V', LC 92 V' D p ls → Fr FL V V' → Q (.inl none) V' D) : RY d 204 0 [vr 390, vr 92, vr 0, vr 0] [] V D Q := by
  refine c_hear_92 hS hB hW fun V' hH hF => h V' ⟨hS.keep fun k hk => hF _ (by simp; omega), hW, hO.cor fun a ha => hF a (by simp; omega), hH⟩ (hF.sub (by decide))
theorem LC.rn_92 (hL : LC 92 V D p ls) {r : Nat} (hr : r < 5) : V 96 r = rR p r := hL.1.2.2.2.2.1 r hr
theorem c_best_92 (hL : LC 92 V D p ls) {t : Nat} {bar : Int} (ht : (t : Int) < p 4) (hbar : 0 ≤ bar ∧ bar < 32)
    (h : ∀ V', Fr [394] V V' → Q (.inl (some (vi (beF p ls bar t)))) V' D) : RY d 281 0 [vr 390, vr 92, vi (t : Int), vi bar, vr 0, vr 0, vr 0, vr 0] [] V D Q := by
  have h3 := hL.2.1.1
  refine u_281_0_92 ?_
  have go : ∀ (n k : Nat) (V1 : xF) (v7 : xV), (n : Int) + k = p 3 → Fr [394] V V1 → RY d 281 9 [vr 390, vr 92, vi (t : Int), vi bar, vi (bo (eR p ls t) (fun r => !tb bar r && !rFR p ls t r) k).1, vi (bo (eR p ls t) (fun r => !tb bar r && !rFR p ls t r) k).2, vi (k : Int), v7] [] V1 D Q := by
    intro n
    induction n with
    | zero =>
      intro k V1 v7 hk hF
      have hL1 := hL.fr hF (by decide) (by decide)
      refine u_281_9_92 ⟨fun _ => ?_, fun hlt => ?_⟩
      · have := h V1 hF
        unfold beF at this
        rw [show (p 3).toNat = k by omega] at this
        exact this
      · rw [hL1.1.rooms] at hlt
        omega
    | succ n ih =>
      intro k V1 v7 hk hF
      have hL1 := hL.fr hF (by decide) (by decide)
      have hr : (k : Int) < p 3 := by omega
      have hk5 : k < 5 := by omega
      have e1 : wr ((k : Int) + 1) = ((k + 1 : Nat) : Int) := by rw [wr_id (by omega) (by omega)]; omega
      have hu : bo (eR p ls t) (fun r => !tb bar r && !rFR p ls t r) (k + 1) = if (!tb bar k && !rFR p ls t k) = true ∧ ((bo (eR p ls t) (fun r => !tb bar r && !rFR p ls t r) k).1 = -1 ∨ (bo (eR p ls t) (fun r => !tb bar r && !rFR p ls t r) k).2 < eR p ls t k) then ((k : Int), eR p ls t k) else bo (eR p ls t) (fun r => !tb bar r && !rFR p ls t r) k := rfl
      have no : ∀ (V2 : xF) (v : xV), Fr [394] V V2 → ¬ ((!tb bar k && !rFR p ls t k) = true ∧ ((bo (eR p ls t) (fun r => !tb bar r && !rFR p ls t r) k).1 = -1 ∨ (bo (eR p ls t) (fun r => !tb bar r && !rFR p ls t r) k).2 < eR p ls t k)) → RY d 281 9 [vr 390, vr 92, vi (t : Int), vi bar, vi (bo (eR p ls t) (fun r => !tb bar r && !rFR p ls t r) k).1, vi (bo (eR p ls t) (fun r => !tb bar r && !rFR p ls t r) k).2, vi (wr ((k : Int) + 1)), v] [] V2 D Q := by
        intro V2 v hF2 hn
        have := ih (k + 1) V2 v (by clear e1; omega) hF2
        rw [hu, if_neg hn] at this
        rw [e1]
        exact this
      have yes : ∀ (V2 : xF) (v : xV), Fr [394] V V2 → ((!tb bar k && !rFR p ls t k) = true ∧ ((bo (eR p ls t) (fun r => !tb bar r && !rFR p ls t r) k).1 = -1 ∨ (bo (eR p ls t) (fun r => !tb bar r && !rFR p ls t r) k).2 < eR p ls t k)) → RY d 281 9 [vr 390, vr 92, vi (t : Int), vi bar, vi (k : Int), vi (eR p ls t k), vi (wr ((k : Int) + 1)), v] [] V2 D Q := by
        intro V2 v hF2 hn
        have := ih (k + 1) V2 v (by clear e1; omega) hF2
        rw [hu, if_pos hn] at this
        rw [e1]
        exact this
      clear e1 hu ih
      refine u_281_9_92 ⟨fun hle => ?_, fun _ => ⟨fun hb => ?_, fun hb => ⟨by omega, ?_⟩⟩⟩
      · rw [hL1.1.rooms] at hle
        omega
      · rw [bit_tb hbar hk5] at hb
        have hb : tb bar k = true := Classical.byContradiction fun g => hb (if_neg g)
        exact no V1 _ hF fun g => by have := g.1; rw [hb] at this; exact absurd this (by simp)
      · rw [bit_tb hbar hk5] at hb
        have hb : tb bar k = false := by
          cases hx : tb bar k
          · rfl
          · rw [hx] at hb; exact absurd hb (by decide)
        rw [nn_toNat, hL1.rn_92 hk5]
        refine c_rf_92 hL1 ht hr fun V2 hF2 => ?_
        show RY d 281 42 _ _ V2 D Q
        have hL2 := hL1.fr hF2 (by decide) (by decide)
        refine u_281_42_92 ⟨fun hf => ?_, fun hf => ⟨by omega, ?_⟩⟩
        · have hf : rFR p ls t k = true := Classical.byContradiction fun g => hf (if_neg g)
          exact no V2 _ (hF.tr hF2) fun g => by have := g.1; rw [hf] at this; exact absurd this (by simp)
        · have hf : rFR p ls t k = false := by
            cases hx : rFR p ls t k
            · rfl
            · rw [show rF p ls t k (rR p k) = true from hx] at hf; exact absurd hf (by decide)
          have hok : (!tb bar k && !rFR p ls t k) = true := by rw [hb, hf]; rfl
          rw [nn_toNat, hL2.rn_92 hk5]
          refine c_es_92 hL2 ht hr (hL.2.1.rent hr) fun V3 hF3 => ?_
          show RY d 281 60 _ _ V3 D Q
          refine u_281_60_92 ⟨fun hm => ?_, fun hm => ⟨fun hle => ?_, fun hlt => ?_⟩⟩
          · exact yes V3 _ ((hF.tr hF2).tr hF3) ⟨hok, Or.inl hm⟩
          · exact no V3 _ ((hF.tr hF2).tr hF3) fun g => g.2.elim hm (Int.not_lt.mpr hle)
          · exact yes V3 _ ((hF.tr hF2).tr hF3) ⟨hok, Or.inr hlt⟩
  exact go (p 3).toNat 0 V _ (by omega) Fr.rf
theorem m_as (hM : MC V p ls) {t r : Nat} (hd : 30 ≤ d) (ht : (t : Int) < p 4) (hr : (r : Int) < p 3)
    (h : ∀ V', V' 405 17 = eR p ls t r → V' 405 18 = (if rFR p ls t r = true then 1 else 0) → askF V V' → MC V' p ls → Q (.inl none) V' D) : RY d 245 0 [vr 405, vi (t : Int), vi (r : Int), vr 0, vr 0, vr 0, vr 0] [] V D Q := by
  obtain ⟨h1, h2, h3, h4⟩ := id hM
  refine m_asks (ls := ls) (by rw [h1]; exact h2) (by rw [h1]; exact h3) h4 hd (by rw [h1]; exact ht) (by rw [h1]; exact hr) fun V' e1 e2 hF => ?_
  rw [h1] at e1 e2
  exact h V' e1 e2 hF (hM.k hF)
theorem m_es (hM : MC V p ls) {t r : Nat} (hd : 30 ≤ d) (ht : (t : Int) < p 4) (hr : (r : Int) < p 3)
    (h : ∀ V', askF V V' → MC V' p ls → Q (.inl (some (vi (eR p ls t r)))) V' D) : RY d 147 0 [vr 405, vi (t : Int), vi (r : Int)] [] V D Q := by
  refine u_147_0 (m_as hM hd ht hr fun V' e1 e2 hF hM' => ?_)
  show RY d 147 6 _ _ V' D Q
  refine u_147_6 ?_
  rw [e1]
  exact h V' hF hM'
theorem m_rf (hM : MC V p ls) {t r : Nat} (hd : 30 ≤ d) (ht : (t : Int) < p 4) (hr : (r : Int) < p 3)
    (h : ∀ V', askF V V' → MC V' p ls → Q (.inl (some (vi (if rFR p ls t r = true then 1 else 0)))) V' D) : RY d 149 0 [vr 405, vi (t : Int), vi (r : Int)] [] V D Q := by
  refine u_149_0 (m_as hM hd ht hr fun V' e1 e2 hF hM' => ?_)
  show RY d 149 6 _ _ V' D Q
  refine u_149_6 ?_
  rw [e2]
  exact ⟨by split <;> simp, h V' hF hM'⟩
/-- 0: of all rooms; else of those that nobody has -/
theorem m_best (hM : MC V p ls) (hB : Bv V) {t : Nat} {g : Int} (hd : 30 ≤ d) (ht : (t : Int) < p 4)
    (h : ∀ V', askF V V' → MC V' p ls → Q (.inl (some (vi (beF p ls (if g = 0 then 0 else letF p) t)))) V' D) : RY d 144 0 [vr 405, vi (t : Int), vi g, vr 0, vr 0, vr 0] [] V D Q := by
  have h3 := hM.2.1.1
  have h4 := hM.2.1.2.1
  obtain ⟨bar, hbar⟩ : ∃ b, b = (if g = 0 then 0 else letF p) := ⟨_, rfl⟩
  rw [← hbar] at h
  have htb : ∀ k, (k : Nat) < 5 → (k : Int) < p 3 → tb bar k = (decide (g ≠ 0) && decide (hdr p (k : Int) ≠ -1)) := by
    intro k hk hk3
    rw [hbar]
    by_cases hg : g = 0
    · rw [if_pos hg, tb0, decide_eq_false (fun n => n hg), Bool.false_and]
    · rw [if_neg hg, decide_eq_true hg, Bool.true_and]
      unfold letF
      rw [tb_bitsT hk (by omega), decide_eq_true (by omega), Bool.true_and]
  refine u_144_0 ?_
  have go : ∀ (n k : Nat) (V1 : xF), (n : Int) + k = p 3 → askF V V1 → RY d 144 8 [vr 405, vi (t : Int), vi g, vi (bo (eR p ls t) (fun r => !tb bar r && !rFR p ls t r) k).1, vi (bo (eR p ls t) (fun r => !tb bar r && !rFR p ls t r) k).2, vi (k : Int)] [] V1 D Q := by
    intro n
    induction n with
    | zero =>
      intro k V1 hk hF
      have hM1 := hM.k hF
      refine u_144_8 ⟨fun _ => ?_, fun hlt => ?_⟩
      · have := h V1 hF hM1
        unfold beF at this
        rw [show (p 3).toNat = k by omega] at this
        exact this
      · rw [hM1.1] at hlt
        omega
    | succ n ih =>
      intro k V1 hk hF
      have hM1 := hM.k hF
      have hr : (k : Int) < p 3 := by omega
      have hk5 : k < 5 := by omega
      have e1 : wr ((k : Int) + 1) = ((k + 1 : Nat) : Int) := by rw [wr_id (by omega) (by omega)]; omega
      have hu : bo (eR p ls t) (fun r => !tb bar r && !rFR p ls t r) (k + 1) = if (!tb bar k && !rFR p ls t k) = true ∧ ((bo (eR p ls t) (fun r => !tb bar r && !rFR p ls t r) k).1 = -1 ∨ (bo (eR p ls t) (fun r => !tb bar r && !rFR p ls t r) k).2 < eR p ls t k) then ((k : Int), eR p ls t k) else bo (eR p ls t) (fun r => !tb bar r && !rFR p ls t r) k := rfl
      have no : ∀ (V2 : xF), askF V V2 → ¬ ((!tb bar k && !rFR p ls t k) = true ∧ ((bo (eR p ls t) (fun r => !tb bar r && !rFR p ls t r) k).1 = -1 ∨ (bo (eR p ls t) (fun r => !tb bar r && !rFR p ls t r) k).2 < eR p ls t k)) → RY d 144 8 [vr 405, vi (t : Int), vi g, vi (bo (eR p ls t) (fun r => !tb bar r && !rFR p ls t r) k).1, vi (bo (eR p ls t) (fun r => !tb bar r && !rFR p ls t r) k).2, vi (wr ((k : Int) + 1))] [] V2 D Q := by
        intro V2 hF2 hn
        have := ih (k + 1) V2 (by clear e1; omega) hF2
        rw [hu, if_neg hn] at this
        rw [e1]
        exact this
      have yes : ∀ (V2 : xF), askF V V2 → ((!tb bar k && !rFR p ls t k) = true ∧ ((bo (eR p ls t) (fun r => !tb bar r && !rFR p ls t r) k).1 = -1 ∨ (bo (eR p ls t) (fun r => !tb bar r && !rFR p ls t r) k).2 < eR p ls t k)) → RY d 144 8 [vr 405, vi (t : Int), vi g, vi (k : Int), vi (eR p ls t k), vi (wr ((k : Int) + 1))] [] V2 D Q := by
        intro V2 hF2 hn
        have := ih (k + 1) V2 (by clear e1; omega) hF2
        rw [hu, if_pos hn] at this
        rw [e1]
        exact this
      clear e1 hu ih
      have look : tb bar k = false → RY d 245 0 [vr 405, vi (t : Int), vi (k : Int), vr 0, vr 0, vr 0, vr 0] [] V1 D (yback d 144 43 [vr 405, vi (t : Int), vi g, vi (bo (eR p ls t) (fun r => !tb bar r && !rFR p ls t r) k).1, vi (bo (eR p ls t) (fun r => !tb bar r && !rFR p ls t r) k).2, vi (k : Int)] [] Q) := by
        intro hb
        refine m_as hM1 hd ht hr fun V2 e17 e18 hF2 hM2 => ?_
        show RY d 144 43 _ _ V2 D Q
        refine u_144_43 ⟨fun hf => ?_, fun hf => ?_⟩
        · rw [e18] at hf
          have hf : rFR p ls t k = true := Classical.byContradiction fun g => hf (if_neg g)
          exact no V2 (hF.tr hF2) fun g => by have := g.1; rw [hf] at this; exact absurd this (by simp)
        · rw [e18] at hf
          have hf : rFR p ls t k = false := by
            cases hx : rFR p ls t k
            · rfl
            · rw [hx] at hf; exact absurd hf (by decide)
          have hok : (!tb bar k && !rFR p ls t k) = true := by rw [hb, hf]; rfl
          rw [e17]
          exact ⟨fun hm => yes V2 (hF.tr hF2) ⟨hok, Or.inl hm⟩, fun hm => ⟨fun hlt => yes V2 (hF.tr hF2) ⟨hok, Or.inr hlt⟩, fun hle => no V2 (hF.tr hF2) fun g => g.2.elim hm (Int.not_lt.mpr hle)⟩⟩
      have htk := htb k hk5 hr
      refine u_144_8 ⟨fun hle => ?_, fun _ => ⟨fun hg => ?_, fun hg => ?_⟩⟩
      · rw [hM1.1] at hle
        omega
      · refine look ?_
        rw [htk, decide_eq_false (fun n => n hg), Bool.false_and]
      · refine m_holder (by omega) (by rw [hM1.1]; exact hM.2.1) ?_
        rw [hM1.1]
        rw [decide_eq_true hg, Bool.true_and] at htk
        show RY d 144 29 _ _ V1 D Q
        refine u_144_29 ⟨fun hn => look ?_, fun hn => ?_⟩
        · rw [htk, decide_eq_false (fun n => n hn)]
        · refine no V1 hF fun g => ?_
          have := g.1
          rw [htk, decide_eq_true hn] at this
          exact absurd this (by simp)
  exact go (p 3).toNat 0 V (by omega) (askF.rf hB)
end BEST
