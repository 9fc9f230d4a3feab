/-! ===== ESTEEM, REFUSES, MOVES: ANSWERS ===== -/
section MOVES
variable {d : Nat} {V : xF} {D : yD} {Q : xRes → xF → yD → Prop} {p : Rw} {ls : List Ln}
theorem FLcor {V V' : xF} (h : Fr FL V V') : Cor V V' := h.cor (by decide)
theorem beF_b (hW : WF p) {bar : Int} {t : Nat} : beF p ls bar t = -1 ∨ ∃ m : Nat, beF p ls bar t = (m : Int) ∧ (m : Int) < p 3 ∧ tb bar m = false ∧ rFR p ls t m = false := by
  rcases bo_b (E := eR p ls t) (ok := fun r => !tb bar r && !rFR p ls t r) (p 3).toNat with h | ⟨m, h1, h2, h3⟩
  · exact Or.inl h
  · refine Or.inr ⟨m, h1, by have := hW.1; omega, ?_⟩
    have h3 : (!tb bar m && !rFR p ls t m) = true := h3
    rw [Bool.and_eq_true, Bool.not_eq_true', Bool.not_eq_true'] at h3
    exact h3
theorem or_0 {b : Nat → Bool} {n : Nat} (hn : n ≤ 5) : xor_ (bitsT b n) 0 = bitsT b n := by
  have := bitsT_lt (b := b) hn
  have hall : ∀ x : Fin 32, xor_ (x.1 : Int) 0 = (x.1 : Int) := by decide +kernel
  have h2 := hall ⟨(bitsT b n).toNat, by omega⟩
  dsimp only at h2
  rwa [show (((bitsT b n).toNat : Nat) : Int) = bitsT b n by omega] at h2
theorem WF.lodN (hW : WF p) {t : Nat} (ht : (t : Int) < p 4) (hn : tL_ p t ≠ -1) : ∃ m : Nat, tL_ p t = (m : Int) ∧ (m : Int) < p 3 := by
  have := (hW.ten ht).2.2.2
  exact ⟨(tL_ p t).toNat, by omega, by omega⟩
theorem moveB_m {t m : Nat} (e : beF p ls 0 t = (m : Int)) (hne : (m : Int) ≠ tL_ p t) : moveB p ls t = if tL_ p t = -1 then decide (0 ≤ eR p ls t m) else decide (eR p ls t (tL_ p t).toNat < eR p ls t m) := by
  unfold moveB
  rw [e, nn_toNat, decide_eq_true ⟨by omega, hne⟩, Bool.true_and]
theorem c_move_81 (hL : LC 81 V D p ls) {t : Nat} (ht : (t : Int) < p 4)
    (h : ∀ V', Fr [394] V V' → Q (.inl (some (vi (if moveB p ls t = true then 1 else 0)))) V' D) : RY d 205 0 [vr 390, vr 81, vi (t : Int), vr 0, vr 0, vr 0] [] V D Q := by
  obtain ⟨ht5, hp, htw, htl⟩ := hL.2.1.ten ht
  have hW := hL.2.1
  refine u_205_0_81 (c_best_81 hL ht (by omega) fun V1 hF1 => ?_)
  show RY d 205 7 _ _ V1 D Q
  have hL1 := hL.fr hF1 (by decide) (by decide)
  have hlo : V1 89 t = tL_ p t := hL1.1.lod ht5
  refine u_205_7_81 ⟨by omega, fun hn => ?_, fun hn => ⟨fun hne => ?_, fun he => ?_⟩⟩
  · have := h V1 hF1
    unfold moveB at this
    rw [decide_eq_false (fun g => g.1 hn), Bool.false_and] at this
    exact this
  · rw [nn_toNat, hlo] at hne
    rw [nn_toNat, hlo]
    rcases beF_b (ls := ls) (bar := 0) (t := t) hW with e | ⟨m, e, hm3, _⟩
    · exact absurd e hn
    · rw [e]
      have hm5 : m < 5 := by have := hW.1; omega
      refine ⟨by omega, ?_⟩
      rw [nn_toNat, hL1.rn_81 hm5]
      refine c_es_81 hL1 ht hm3 (hW.rent hm3) fun V2 hF2 => ?_
      show RY d 205 42 _ _ V2 D Q
      have hL2 := hL1.fr hF2 (by decide) (by decide)
      refine u_205_42_81 ⟨fun hl => ?_, fun hl => ⟨fun hlt => ?_, fun hge => ?_⟩⟩
      · obtain ⟨o, eo, ho3⟩ := hW.lodN ht hl
        have ho5 : o < 5 := by have := hW.1; omega
        rw [eo]
        refine ⟨by omega, ?_⟩
        rw [nn_toNat, hL2.rn_81 ho5]
        refine c_es_81 hL2 ht ho3 (hW.rent ho3) fun V3 hF3 => ?_
        show RY d 205 80 _ _ V3 D Q
        have hq := h V3 ((hF1.tr hF2).tr hF3)
        have mv := moveB_m e (fun g => hne (e.trans g))
        rw [if_neg hl, eo, nn_toNat] at mv
        rw [mv] at hq
        refine u_205_80_81 ⟨fun hle => ?_, fun hlt => ?_⟩
        · rw [decide_eq_false (Int.not_lt.mpr hle)] at hq
          exact hq
        · rw [decide_eq_true hlt] at hq
          exact hq
      · have hq := h V2 (hF1.tr hF2)
        have mv := moveB_m e (fun g => hne (e.trans g))
        rw [if_pos hl] at mv
        rw [mv, decide_eq_false (Int.not_le.mpr hlt)] at hq
        exact hq
      · have hq := h V2 (hF1.tr hF2)
        have mv := moveB_m e (fun g => hne (e.trans g))
        rw [if_pos hl] at mv
        rw [mv, decide_eq_true hge] at hq
        exact hq
  · rw [nn_toNat, hlo] at he
    have := h V1 hF1
    unfold moveB at this
    rw [decide_eq_false (fun g => g.2 he), Bool.false_and] at this
    exact this
theorem ca_moves (hS : St V 81 p) (hB : V 2 = xback5) (hW : WF p) (hO : LO V D (D.2.1 81) ls) (h : ∀ V', Cor V V' → Q (.inl (some (vi (movesF p ls)))) V' D) : RY d 71 0 [vr 70, vr 0, vr 0] [] V D Q := by
  have h4 := hW.2.1
  refine u_71_0 (lc_hear_81 hS hB hW hO fun V1 hL1 hF1 => ?_)
  show RY d 71 11 _ _ V1 D Q
  refine u_71_11 ?_
  have go : ∀ (n k : Nat) (V2 : xF), (n : Int) + k = p 4 → Fr [394] V1 V2 → RY d 71 15 [vr 70, vi (bitsT (moveB p ls) k), vi (k : Int)] [] V2 D Q := by
    intro n
    induction n with
    | zero =>
      intro k V2 hk hF
      have hL2 := hL1.fr hF (by decide) (by decide)
      refine u_71_15 ⟨fun _ => ?_, fun hlt => ?_⟩
      · have := h V2 ((FLcor hF1).tr (hF.cor (by decide)))
        unfold movesF at this
        rw [show (p 4).toNat = k by omega] at this
        exact this
      · rw [hL2.1.tens] at hlt
        omega
    | succ n ih =>
      intro k V2 hk hF
      have hL2 := hL1.fr hF (by decide) (by decide)
      have e1 : wr ((k : Int) + 1) = ((k + 1 : Nat) : Int) := by rw [wr_id (by omega) (by omega)]; omega
      have hu : bitsT (moveB p ls) (k + 1) = if moveB p ls k = true then xor_ (bitsT (moveB p ls) k) (xshl 1 (k : Int)) else bitsT (moveB p ls) k := rfl
      refine u_71_15 ⟨fun hle => ?_, fun _ => ?_⟩
      · rw [hL2.1.tens] at hle
        omega
      · refine c_move_81 hL2 (by clear e1; omega) fun V3 hF3 => ?_
        show RY d 71 38 _ _ V3 D Q
        have hn := ih (k + 1) V3 (by clear e1; omega) (hF.tr hF3)
        rw [hu] at hn
        refine u_71_38 ⟨fun h0 => ?_, fun h0 => ?_⟩
        · rw [if_neg (fun g => by rw [if_pos g] at h0; exact absurd h0 (by decide))] at hn
          rw [e1]; exact hn
        · rw [if_pos (Classical.byContradiction fun g => h0 (if_neg g))] at hn
          rw [e1]; exact hn
  exact go (p 4).toNat 0 V1 (by omega) Fr.rf
theorem ca_esteem {t r : Int} (hS : St V 81 p) (hB : V 2 = xback5) (hW : WF p) (hO : LO V D (D.2.1 81) ls) (h : ∀ V' D', Cor V V' → CorD D D' → Q (cRes (aEsteem p ls t r)) V' D') : RY d 146 0 [vr 70, vi t, vi r] [] V D Q := by
  unfold aEsteem at h
  refine u_146_0 (c_needTenant hS (fun t0 t1 => ?_) (fun hn => ⟨rfl, ?_⟩))
  · refine u_146_5 (c_needRoom hS (fun hr => ?_) (fun hn => ⟨rfl, ?_⟩))
    · refine u_146_10 (lc_hear_81 hS hB hW hO fun V1 hL1 hF1 => ?_)
      show RY d 146 21 _ _ V1 D Q
      obtain ⟨t, rfl⟩ : ∃ n : Nat, t = (n : Int) := ⟨t.toNat, by omega⟩
      obtain ⟨r, rfl⟩ : ∃ n : Nat, r = (n : Int) := ⟨r.toNat, by omega⟩
      rw [aIf_y ⟨⟨t0, t1⟩, hr⟩, nn_toNat, nn_toNat] at h
      have hr5 : r < 5 := by have := hW.1; omega
      refine u_146_21 ⟨by omega, ?_⟩
      rw [nn_toNat, hL1.rn_81 hr5]
      refine c_es_81 hL1 t1 hr.2 (hW.rent hr.2) fun V2 hF2 => ?_
      show RY d 146 43 _ _ V2 D Q
      exact u_146_43 (h V2 D ((FLcor hF1).tr (hF2.cor (by decide))) CorD.rf)
    · rw [aIf_n (fun g => hn g.2)] at h
      exact h V _ Cor.rf CorD.exc
  · rw [aIf_n (fun g => hn g.1)] at h
    exact h V _ Cor.rf CorD.exc
theorem ca_refuses {t r : Int} (hS : St V 81 p) (hB : V 2 = xback5) (hW : WF p) (hO : LO V D (D.2.1 81) ls) (h : ∀ V' D', Cor V V' → CorD D D' → Q (cRes (aRefuses p ls t r)) V' D') : RY d 148 0 [vr 70, vi t, vi r] [] V D Q := by
  unfold aRefuses at h
  refine u_148_0 (c_needTenant hS (fun t0 t1 => ?_) (fun hn => ⟨rfl, ?_⟩))
  · refine u_148_5 (c_needRoom hS (fun hr => ?_) (fun hn => ⟨rfl, ?_⟩))
    · refine u_148_10 (lc_hear_81 hS hB hW hO fun V1 hL1 hF1 => ?_)
      show RY d 148 21 _ _ V1 D Q
      obtain ⟨t, rfl⟩ : ∃ n : Nat, t = (n : Int) := ⟨t.toNat, by omega⟩
      obtain ⟨r, rfl⟩ : ∃ n : Nat, r = (n : Int) := ⟨r.toNat, by omega⟩
      rw [aIf_y ⟨⟨t0, t1⟩, hr⟩, nn_toNat, nn_toNat] at h
      have hr5 : r < 5 := by have := hW.1; omega
      refine u_148_21 ⟨by omega, ?_⟩
      rw [nn_toNat, hL1.rn_81 hr5]
      refine c_rf_81 hL1 t1 hr.2 fun V2 hF2 => ?_
      show RY d 148 43 _ _ V2 D Q
      exact u_148_43 ⟨by split <;> simp, h V2 D ((FLcor hF1).tr (hF2.cor (by decide))) CorD.rf⟩
    · rw [aIf_n (fun g => hn g.2)] at h
      exact h V _ Cor.rf CorD.exc
  · rw [aIf_n (fun g => hn g.1)] at h
    exact h V _ Cor.rf CorD.exc
/-! the model -/
theorem askF.z {V1 : xF} (h : askF V V1) : V1 405 0 = V 405 0 := h.2.1 0 (by omega)
theorem ma_esteem {t r : Int} (hM : MC V p ls) (hB : Bv V) (hd : 30 ≤ d) (h : ∀ V', V' 405 0 = mCd 2 (aEsteem p ls t r) → Cor V V' → Q (.inl (some (vi (mVal (aEsteem p ls t r))))) V' D) : RY d 18 0 [vr 405, vi t, vi r] [] V D Q := by
  obtain ⟨hE, hW, hT, hw⟩ := id hM
  unfold aEsteem at h
  have bad : ¬ trP p t r → ∀ V1 : xF, V1 = up2 V 405 0 1 → (((V1 405 0) ≤ 0 → RY d 147 0 [vr 405, vi t, vi r] [] V1 D (yback d 18 42 [vr 405, vi t, vi r] [] Q)) ∧ ((0 : Int) < (V1 405 0) → Q (.inl (some (vi 0))) V1 D)) := by
    rintro hn V1 rfl
    rw [aIf_n hn] at h
    refine ⟨fun g => ?_, fun _ => h _ v405.1 v405.2.2⟩
    rw [v405.1] at g
    exact absurd g (by decide)
  refine u_18_0 ⟨yg142, ?_⟩
  rw [yr142 (by rw [hE]; exact hW), hE]
  by_cases ht : 0 ≤ t ∧ t < p 4
  · rw [if_pos ht]
    refine ⟨fun g => absurd g (by decide), fun _ => ⟨yg132, ?_⟩⟩
    rw [yr132 (by rw [hE]; exact hW), hE]
    by_cases hr : 0 ≤ r ∧ r < p 3
    · rw [if_pos hr]
      refine ⟨fun _ => ?_, fun g => absurd g (by decide)⟩
      rintro V1 rfl
      obtain ⟨t, rfl⟩ : ∃ n : Nat, t = (n : Int) := ⟨t.toNat, by omega⟩
      obtain ⟨r, rfl⟩ : ∃ n : Nat, r = (n : Int) := ⟨r.toNat, by omega⟩
      rw [aIf_y ⟨ht, hr⟩, nn_toNat, nn_toNat] at h
      refine ⟨fun _ => ?_, fun g => ?_⟩
      · refine m_es (hM.c v405.2.2) hd ht.2 hr.2 fun V2 hF2 hM2 => ?_
        show RY d 18 42 _ _ V2 D Q
        exact u_18_42 (h V2 (by rw [hF2.z, v405.1]; rfl) (v405.2.2.tr hF2.cor))
      · rw [v405.1] at g
        exact absurd g (by decide)
    · rw [if_neg hr]
      exact ⟨fun g => absurd rfl g, fun _ => bad (fun g => hr g.2)⟩
  · rw [if_neg ht]
    exact ⟨fun _ => bad (fun g => ht g.1), fun g => absurd rfl g⟩
theorem ma_refuses {t r : Int} (hM : MC V p ls) (hB : Bv V) (hd : 30 ≤ d) (h : ∀ V', V' 405 0 = mCd 2 (aRefuses p ls t r) → Cor V V' → Q (.inl (some (vi (mVal (aRefuses p ls t r))))) V' D) : RY d 20 0 [vr 405, vi t, vi r] [] V D Q := by
  obtain ⟨hE, hW, hT, hw⟩ := id hM
  unfold aRefuses at h
  have bad : ¬ trP p t r → ∀ V1 : xF, V1 = up2 V 405 0 1 → (((V1 405 0) ≠ 0 → Q (.inl (some (vi 0))) V1 D) ∧ ((V1 405 0) = 0 → RY d 149 0 [vr 405, vi t, vi r] [] V1 D (yback d 20 38 [vr 405, vi t, vi r] [] Q))) := by
    rintro hn V1 rfl
    rw [aIf_n hn] at h
    refine ⟨fun _ => h _ v405.1 v405.2.2, fun g => ?_⟩
    rw [v405.1] at g
    exact absurd g (by decide)
  refine u_20_0 ⟨yg142, ?_⟩
  rw [yr142 (by rw [hE]; exact hW), hE]
  by_cases ht : 0 ≤ t ∧ t < p 4
  · rw [if_pos ht]
    refine ⟨fun g => absurd g (by decide), fun _ => ⟨yg132, ?_⟩⟩
    rw [yr132 (by rw [hE]; exact hW), hE]
    by_cases hr : 0 ≤ r ∧ r < p 3
    · rw [if_pos hr]
      refine ⟨fun _ => ?_, fun g => absurd g (by decide)⟩
      rintro V1 rfl
      obtain ⟨t, rfl⟩ : ∃ n : Nat, t = (n : Int) := ⟨t.toNat, by omega⟩
      obtain ⟨r, rfl⟩ : ∃ n : Nat, r = (n : Int) := ⟨r.toNat, by omega⟩
      rw [aIf_y ⟨ht, hr⟩, nn_toNat, nn_toNat] at h
      refine ⟨fun g => ?_, fun _ => ?_⟩
      · rw [v405.1] at g
        exact absurd rfl g
      · refine m_rf (hM.c v405.2.2) hd ht.2 hr.2 fun V2 hF2 hM2 => ?_
        show RY d 20 38 _ _ V2 D Q
        have hq := h V2 (by rw [hF2.z, v405.1]; rfl) (v405.2.2.tr hF2.cor)
        refine u_20_38 ⟨fun g => ?_, fun g => ?_⟩
        · rw [show mVal (.inl (if rFR p ls t r = true then 1 else 0)) = 0 from g] at hq
          exact hq
        · rw [show mVal (.inl (if rFR p ls t r = true then 1 else 0)) = 1 from if_pos (Classical.byContradiction fun g' => g (if_neg g'))] at hq
          exact hq
    · rw [if_neg hr]
      exact ⟨fun g => absurd rfl g, fun _ => bad (fun g => hr g.2)⟩
  · rw [if_neg ht]
    exact ⟨fun _ => bad (fun g => ht g.1), fun g => absurd rfl g⟩
theorem ma_moves (hM : MC V p ls) (hB : Bv V) (hd : 30 ≤ d) (h : ∀ V', V' 405 0 = 0 → Cor V V' → Q (.inl (some (vi (movesF p ls)))) V' D) : RY d 72 0 [vr 405, vr 0, vr 0, vr 0, vr 0, vr 0] [] V D Q := by
  obtain ⟨hE, hW, hT, hw⟩ := id hM
  have h4 := hW.2.1
  refine u_72_0 ?_
  rintro V1 hV1
  have hC1 : Cor V V1 := by rw [hV1]; exact v405.2.2
  have hz : V1 405 0 = 0 := by rw [hV1]; exact v405.1
  have hM1 := hM.c hC1
  have hB1 : Bv V1 := hC1.2.2.2.2.2.2 hB
  clear hV1
  have go : ∀ (n k : Nat) (V2 : xF) (v3 v4 v5 : xV), (n : Int) + k = p 4 → askF V1 V2 → RY d 72 9 [vr 405, vi (bitsT (moveB p ls) k), vi (k : Int), v3, v4, v5] [] V2 D Q := by
    intro n
    induction n with
    | zero =>
      intro k V2 v3 v4 v5 hk hF
      have hM2 := hM1.k hF
      refine u_72_9 ⟨fun _ => ?_, fun hlt => ?_⟩
      · have := h V2 (by rw [hF.z, hz]) (hC1.tr hF.cor)
        unfold movesF at this
        rw [show (p 4).toNat = k by omega] at this
        exact this
      · rw [hM2.1] at hlt
        omega
    | succ n ih =>
      intro k V2 v3 v4 v5 hk hF
      have hM2 := hM1.k hF
      have ht : (k : Int) < p 4 := by omega
      obtain ⟨ht5, hp, htw, htl⟩ := hW.ten ht
      have e1 : wr ((k : Int) + 1) = ((k + 1 : Nat) : Int) := by rw [wr_id (by omega) (by omega)]; omega
      have hu : bitsT (moveB p ls) (k + 1) = if moveB p ls k = true then xor_ (bitsT (moveB p ls) k) (xshl 1 (k : Int)) else bitsT (moveB p ls) k := rfl
      have no : ∀ (V3 : xF) (v3 v4 v5 : xV), askF V1 V3 → moveB p ls k = false → RY d 72 9 [vr 405, vi (bitsT (moveB p ls) k), vi (wr ((k : Int) + 1)), v3, v4, v5] [] V3 D Q := by
        intro V3 v3 v4 v5 hF3 hm
        have := ih (k + 1) V3 v3 v4 v5 (by clear e1; omega) hF3
        rw [hu, hm, if_neg (by decide)] at this
        rw [e1]; exact this
      have yes : ∀ (V3 : xF) (v3 v4 v5 : xV), askF V1 V3 → moveB p ls k = true → RY d 72 9 [vr 405, vi (xor_ (bitsT (moveB p ls) k) (xshl 1 (k : Int))), vi (wr ((k : Int) + 1)), v3, v4, v5] [] V3 D Q := by
        intro V3 v3 v4 v5 hF3 hm
        have := ih (k + 1) V3 v3 v4 v5 (by clear e1; omega) hF3
        rw [hu, hm, if_pos rfl] at this
        rw [e1]; exact this
      clear e1 hu ih
      refine u_72_9 ⟨fun hle => ?_, fun _ => ?_⟩
      · rw [hM2.1] at hle
        omega
      · refine m_best hM2 hF.2.2 hd ht fun V3 hF3 hM3 => ?_
        rw [if_pos rfl]
        show RY d 72 25 _ _ V3 D Q
        have e6 := hM3.1
        refine u_72_25 ⟨yg143 ht5 (by omega), ?_⟩
        rw [yr143_2 ht5, e6]
        refine ⟨fun hn => no V3 _ _ _ (hF.tr hF3) ?_, fun hn => ⟨fun hne => ?_, fun he => no V3 _ _ _ (hF.tr hF3) ?_⟩⟩
        · unfold moveB; rw [decide_eq_false (fun g => g.1 hn), Bool.false_and]
        · rcases beF_b (ls := ls) (bar := 0) (t := k) hW with e | ⟨m, e, hm3, _⟩
          · exact absurd e hn
          · rw [e]
            have hne' : (m : Int) ≠ tL_ p k := by rw [e] at hne; exact hne
            refine m_es hM3 hd ht hm3 fun V4 hF4 hM4 => ?_
            show RY d 72 54 _ _ V4 D Q
            have mv := moveB_m e hne'
            refine u_72_54 ⟨fun hl => ?_, fun hl => ⟨fun hlt => ?_, fun hge => ?_⟩⟩
            · obtain ⟨o, eo, ho3⟩ := hW.lodN ht hl
              rw [if_neg hl] at mv
              rw [eo, nn_toNat] at mv
              rw [eo]
              refine m_es hM4 hd ht ho3 fun V5 hF5 hM5 => ?_
              show RY d 72 87 _ _ V5 D Q
              refine u_72_87 ⟨fun hle => ?_, fun hlt => ?_⟩
              · rw [or_0 (by omega)]
                exact no V5 _ _ _ (((hF.tr hF3).tr hF4).tr hF5) (mv.trans (decide_eq_false (Int.not_lt.mpr hle)))
              · exact yes V5 _ _ _ (((hF.tr hF3).tr hF4).tr hF5) (mv.trans (decide_eq_true hlt))
            · rw [if_pos hl] at mv
              rw [or_0 (by omega)]
              exact no V4 _ _ _ ((hF.tr hF3).tr hF4) (mv.trans (decide_eq_false (Int.not_le.mpr hlt)))
            · rw [if_pos hl] at mv
              exact yes V4 _ _ _ ((hF.tr hF3).tr hF4) (mv.trans (decide_eq_true hge))
        · unfold moveB; rw [decide_eq_false (fun g => g.2 he), Bool.false_and]
  exact go (p 4).toNat 0 V1 _ _ _ (by omega) (askF.rf hB1)
end MOVES
