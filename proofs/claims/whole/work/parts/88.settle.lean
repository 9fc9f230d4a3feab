/-! ===== A TENANT SETTLES ===== -/
def stF (p : Rw) (ls : List Ln) (t : Nat) : Int := if tL_ p t = -1 then (if beF p ls (letF p) t ≠ -1 ∧ 0 ≤ eR p ls t (beF p ls (letF p) t).toNat then beF p ls (letF p) t else -1) else if eR p ls t (tL_ p t).toNat < 0 ∨ rFR p ls t (tL_ p t).toNat = true then -1 else tL_ p t
abbrev lodR (p : Rw) (ls : List Ln) (t : Nat) : Rw := rup p (53 + 3 * t) (stF p ls t)
theorem rup_same {p : Rw} {i : Nat} {z : Int} (h : p i = z) : rup p i z = p := by
  funext k
  unfold rup
  split
  · rename_i e; rw [e, h]
  · rfl
theorem hearM_cong {q p : Rw} {r : Nat} (h : ∀ k, k < 51 → k ≠ 12 → k ≠ 15 → q k = p k) (hr : r < 5) : hearM q r = hearM p r := by
  have h1 : rW q r = rW p r := h _ (by omega) (by omega) (by omega)
  have h2 : rD q r = rD p r := h _ (by omega) (by omega) (by omega)
  funext t
  unfold hearM
  rw [h1, h2]
  exact hear_cong h1 h2 (fun w hw => h _ (by omega) (by omega) (by omega)) (h 8 (by omega) (by omega) (by omega)) (h 9 (by omega) (by omega) (by omega)) (h 10 (by omega) (by omega) (by omega)) t
theorem HC.cong {V : xF} {q p : Rw} (hH : HC V p) (h : ∀ k, k < 51 → k ≠ 12 → k ≠ 15 → q k = p k) (h5 : p 3 ≤ 5) : HC V q := by
  intro r hr
  rw [h 3 (by omega) (by omega) (by omega)] at hr
  have := hH r hr
  unfold hcn hld at *
  rw [hearM_cong h (by omega)]
  exact this
theorem TXT.cong {q p : Rw} {ls : List Ln} (h : TXT p ls) (h1 : q 1 = p 1) (h2 : q 2 = p 2) (h3 : ∀ k, 331 ≤ k → q k = p k) : TXT q ls := by
  obtain ⟨T, m, N, j, t1, t2, t3, t4, t5⟩ := h
  refine ⟨T, m, N, j, t1, t2, ?_, fun k hk => ?_, t5⟩
  · rw [h1, h2]; exact t3
  · rw [h3 _ (by omega)]; exact t4 k hk
theorem WF.lodge {p : Rw} (hW : WF p) {t : Nat} {z : Int} (ht : t < 5) (hz : z = -1 ∨ (0 ≤ z ∧ z < p 3 ∧ ∀ u : Nat, (u : Int) < p 4 → tL_ p u = z → u = t)) : WF (rup p (53 + 3 * t) z) := by
  have r4 : p 4 ≤ 5 := hW.2.1.2
  have r3 : p 3 ≤ 5 := hW.1.2
  obtain ⟨g1, g2, g3, g4, g5, g6, g7, g8, g9, g10, g11, g12, g13, g14, g15, g16⟩ := hW
  have n : ∀ k, k ≠ 53 + 3 * t → rup p (53 + 3 * t) z k = p k := fun k hk => by unfold rup; rw [if_neg hk]
  have lo : ∀ u, tL_ (rup p (53 + 3 * t) z) u = if u = t then z else tL_ p u := by
    intro u
    unfold tL_ rup
    by_cases e : u = t
    · rw [if_pos (by omega), if_pos e]
    · rw [if_neg (by omega), if_neg e]
  unfold WF
  rw [n 3 (by omega), n 4 (by omega), n 0 (by omega), n 1 (by omega), n 5 (by omega), n 6 (by omega), n 7 (by omega), n 8 (by omega), n 9 (by omega), n 10 (by omega), n 11 (by omega), n 12 (by omega), n 13 (by omega), n 14 (by omega)]
  refine ⟨g1, g2, g3, g4, g5, g6, g7, g8, g9, g10, g11, fun r hr => ?_, fun u hu => ?_, fun u v hu hv => ?_, fun r o hr ho => ?_, ?_⟩
  · have := g12 r hr
    unfold rW rD rS rR at *
    rw [n _ (by omega), n _ (by omega), n _ (by omega)]
    exact ⟨this.1, this.2.1, fun w hw => by rw [n _ (by omega)]; exact this.2.2.1 w hw, this.2.2.2⟩
  · have := g13 u hu
    rw [lo]
    unfold tP_ tW_ at *
    rw [n _ (by omega), n _ (by omega)]
    refine ⟨this.1, this.2.1, ?_⟩
    split <;> omega
  · rw [lo, lo]
    have h1 := g14 u v hu hv
    by_cases e1 : u = t <;> by_cases e2 : v = t
    · intro _ _; omega
    · rw [if_pos e1, if_neg e2]
      intro h hn
      rcases hz with hz | ⟨_, _, hz⟩
      · exact absurd hz hn
      · exact absurd (hz v hv h.symm) e2
    · rw [if_neg e1, if_pos e2]
      intro h hn
      rcases hz with hz | ⟨_, _, hz⟩
      · exact absurd (h.trans hz) hn
      · exact absurd (hz u hu h) e1
    · rw [if_neg e1, if_neg e2]
      exact h1
  · unfold dO_
    rw [n _ (by omega), n _ (by omega)]
    exact g15 r o hr ho
  · rcases g16 with h | h
    · exact Or.inl h
    · right
      unfold rW rD at *
      rw [n _ (by omega), n _ (by omega)]
      exact h
section SETTLE
variable {d : Nat} {V : xF} {D : yD} {Q : xRes → xF → yD → Prop} {p : Rw} {ls : List Ln}
theorem fstB_no {b : Nat → Bool} : ∀ {n : Nat}, fstB b n = -1 → ∀ k, k < n → b k = false
  | 0, _, k, hk => absurd hk (Nat.not_lt_zero _)
  | n + 1, h, k, hk => by
    unfold fstB at h
    split at h
    · rename_i h1
      split at h
      · omega
      · rename_i h2
        by_cases e : k = n
        · subst e
          exact Bool.not_eq_true _ ▸ h2
        · exact fstB_no h1 k (by omega)
    · rename_i h1
      exact absurd h h1
theorem hdr_no {m : Int} (h : hdr p m = -1) {u : Nat} (hu : (u : Int) < p 4) : tL_ p u ≠ m := by
  have := fstB_no h u (by omega)
  exact of_decide_eq_false this
theorem tb_let (hW : WF p) {m : Nat} (hm : (m : Int) < p 3) (h : tb (letF p) m = false) : hdr p (m : Int) = -1 := by
  unfold letF at h
  have := hW.1
  rw [tb_bitsT (by omega) (by omega), decide_eq_true (by omega), Bool.true_and] at h
  have := of_decide_eq_false h
  exact Classical.byContradiction fun g => this g
theorem stF_ok (hW : WF p) {t : Nat} (ht : (t : Int) < p 4) : stF p ls t = -1 ∨ (0 ≤ stF p ls t ∧ stF p ls t < p 3 ∧ ∀ u : Nat, (u : Int) < p 4 → tL_ p u = stF p ls t → u = t) := by
  unfold stF
  by_cases hl : tL_ p t = -1
  · rw [if_pos hl]
    split
    · rename_i h
      rcases beF_b (ls := ls) (bar := letF p) (t := t) hW with e | ⟨m, e, hm, hb, _⟩
      · exact absurd e h.1
      · right
        rw [e]
        refine ⟨by omega, hm, fun u hu hx => ?_⟩
        have h9 := hdr_no (tb_let hW hm hb) hu
        exact absurd hx h9
    · exact Or.inl rfl
  · rw [if_neg hl]
    split
    · exact Or.inl rfl
    · have := (hW.ten ht).2.2.2
      exact Or.inr ⟨by omega, this.2, fun u hu he => hW.uni hu ht he (by omega)⟩
theorem lod_WF (hW : WF p) {t : Nat} (ht : (t : Int) < p 4) : WF (lodR p ls t) := hW.lodge (hW.ten ht).1 (stF_ok hW ht)
theorem c_settle_81 (hL : LC 81 V D p ls) {t : Nat} (ht : (t : Int) < p 4)
    (h : ∀ V', Fr [394, 89] V V' → LC 81 V' D (lodR p ls t) ls → Q (.inl none) V' D) : RY d 325 0 [vr 390, vr 81, vi (t : Int), vr 0, vr 0] [] V D Q := by
  have hW := hL.2.1
  obtain ⟨ht5, hp, htw, htl⟩ := hW.ten ht
  have hlo : V 89 t = tL_ p t := hL.1.lod ht5
  -- how it ends
  have fin : ∀ V1 V2 : xF, Fr [394] V V1 → V2 = up2 V1 89 t (stF p ls t) → Q (.inl none) V2 D := by
    intro V1 V2 hF1 hV2
    have hL1 := hL.fr hF1 (by decide) (by decide)
    have hF2 : Fr [394, 89] V V2 := by rw [hV2]; exact (hF1.sub (by decide)).tr (Fr.up (by decide))
    refine h V2 hF2 ⟨?_, lod_WF hW ht, hL1.2.2.1.cor (fun a ha => by rw [hV2, up2_na (by omega)]), ?_⟩
    · rw [hV2]
      exact st_lodge (s := 81) hL1.1 ht5
    · refine HC.cong (p := p) (fun r hr => ?_) (fun k hk _ _ => rup_n (by omega)) hW.1.2
      rw [hV2, up2_na (by decide), up2_na (by decide)]
      exact hL1.2.2.2 r hr
  have keep : ∀ V1 : xF, Fr [394] V V1 → tL_ p t = stF p ls t → Q (.inl none) V1 D := by
    intro V1 hF1 he
    refine fin V1 V1 hF1 (up2_same ?_).symm
    rw [hF1.at_ 89 (by decide), hlo, he]
  refine u_325_0_81 ⟨by omega, fun hl => ?_, fun hl => ?_⟩
  · rw [nn_toNat, hlo] at hl
    rw [nn_toNat, hlo]
    obtain ⟨o, eo, ho3⟩ := hW.lodN ht hl
    have ho5 : o < 5 := by have := hW.1; omega
    have hst : stF p ls t = if eR p ls t o < 0 ∨ rFR p ls t o = true then -1 else (o : Int) := by
      unfold stF
      rw [if_neg hl, eo, nn_toNat]
    rw [eo]
    refine ⟨by omega, ?_⟩
    rw [nn_toNat, hL.rn_81 ho5]
    refine c_es_81 hL ht ho3 (hW.rent ho3) fun V1 hF1 => ?_
    show RY d 325 72 _ _ V1 D Q
    have hL1 := hL.fr hF1 (by decide) (by decide)
    refine u_325_72_81 ⟨fun hneg => ⟨by omega, ?_⟩, fun hnn => ⟨by omega, ?_⟩⟩
    · rintro V2 hV2
      rw [nn_toNat] at hV2
      refine fin V1 V2 hF1 ?_
      rw [hst, if_pos (Or.inl hneg)]
      exact hV2
    · rw [nn_toNat, hL1.rn_81 ho5]
      refine c_rf_81 hL1 ht ho3 fun V2 hF2 => ?_
      show RY d 325 88 _ _ V2 D Q
      refine u_325_88_81 ⟨fun hz => ?_, fun hz => ⟨by omega, ?_⟩⟩
      · refine keep V2 (hF1.tr hF2) ?_
        rw [hst, eo, if_neg]
        rintro (g | g)
        · exact absurd hnn (Int.not_le.mpr g)
        · rw [if_pos g] at hz
          exact absurd hz (by decide)
      · rintro V3 hV3
        rw [nn_toNat] at hV3
        refine fin V2 V3 (hF1.tr hF2) ?_
        rw [hst, if_pos (Or.inr (Classical.byContradiction fun g => hz (if_neg g)))]
        exact hV3
  · rw [nn_toNat, hlo] at hl
    rw [nn_toNat, hlo]
    have hst : stF p ls t = if beF p ls (letF p) t ≠ -1 ∧ 0 ≤ eR p ls t (beF p ls (letF p) t).toNat then beF p ls (letF p) t else -1 := by
      unfold stF
      rw [if_pos hl]
    refine c_letRooms_81 hL.1 hW ?_
    show RY d 325 19 _ _ V D Q
    refine u_325_19_81 (c_best_81 hL ht (bitsT_lt (by have := hW.1; omega)) fun V1 hF1 => ?_)
    show RY d 325 22 _ _ V1 D Q
    have hL1 := hL.fr hF1 (by decide) (by decide)
    refine u_325_22_81 ⟨fun hn => ?_, fun hn => ?_⟩
    · refine keep V1 hF1 ?_
      rw [hst, if_neg (fun g => g.1 hn), hl]
    · rcases beF_b (ls := ls) (bar := letF p) (t := t) hW with e | ⟨m, e, hm3, _⟩
      · exact absurd e hn
      · rw [e]
        rw [e, nn_toNat] at hst
        have hm5 : m < 5 := by have := hW.1; omega
        refine ⟨by omega, ?_⟩
        rw [nn_toNat, hL1.rn_81 hm5]
        refine c_es_81 hL1 ht hm3 (hW.rent hm3) fun V2 hF2 => ?_
        show RY d 325 45 _ _ V2 D Q
        refine u_325_45_81 ⟨fun hneg => ?_, fun hnn => ⟨by omega, ?_⟩⟩
        · refine keep V2 (hF1.tr hF2) ?_
          rw [hst, if_neg (fun g => absurd g.2 (Int.not_le.mpr hneg)), hl]
        · rintro V3 hV3
          rw [nn_toNat] at hV3
          refine fin V2 V3 (hF1.tr hF2) ?_
          rw [hst, if_pos ⟨by omega, hnn⟩]
          exact hV3
theorem c_settle_92 (hL : LC 92 V D p ls) {t : Nat} (ht : (t : Int) < p 4)
    (h : ∀ V', Fr [394, 100] V V' → LC 92 V' D (lodR p ls t) ls → Q (.inl none) V' D) : RY d 325 0 [vr 390, vr 92, vi (t : Int), vr 0, vr 0] [] V D Q := by
  have hW := hL.2.1
  obtain ⟨ht5, hp, htw, htl⟩ := hW.ten ht
  have hlo : V 100 t = tL_ p t := hL.1.lod ht5
  -- how it ends
  have fin : ∀ V1 V2 : xF, Fr [394] V V1 → V2 = up2 V1 100 t (stF p ls t) → Q (.inl none) V2 D := by
    intro V1 V2 hF1 hV2
    have hL1 := hL.fr hF1 (by decide) (by decide)
    have hF2 : Fr [394, 100] V V2 := by rw [hV2]; exact (hF1.sub (by decide)).tr (Fr.up (by decide))
    refine h V2 hF2 ⟨?_, lod_WF hW ht, hL1.2.2.1.cor (fun a ha => by rw [hV2, up2_na (by omega)]), ?_⟩
    · rw [hV2]
      exact st_lodge (s := 92) hL1.1 ht5
    · refine HC.cong (p := p) (fun r hr => ?_) (fun k hk _ _ => rup_n (by omega)) hW.1.2
      rw [hV2, up2_na (by decide), up2_na (by decide)]
      exact hL1.2.2.2 r hr
  have keep : ∀ V1 : xF, Fr [394] V V1 → tL_ p t = stF p ls t → Q (.inl none) V1 D := by
    intro V1 hF1 he
    refine fin V1 V1 hF1 (up2_same ?_).symm
    rw [hF1.at_ 100 (by decide), hlo, he]
  refine u_325_0_92 ⟨by omega, fun hl => ?_, fun hl => ?_⟩
  · rw [nn_toNat, hlo] at hl
    rw [nn_toNat, hlo]
    obtain ⟨o, eo, ho3⟩ := hW.lodN ht hl
    have ho5 : o < 5 := by have := hW.1; omega
    have hst : stF p ls t = if eR p ls t o < 0 ∨ rFR p ls t o = true then -1 else (o : Int) := by
      unfold stF
      rw [if_neg hl, eo, nn_toNat]
    rw [eo]
    refine ⟨by omega, ?_⟩
    rw [nn_toNat, hL.rn_92 ho5]
    refine c_es_92 hL ht ho3 (hW.rent ho3) fun V1 hF1 => ?_
    show RY d 325 72 _ _ V1 D Q
    have hL1 := hL.fr hF1 (by decide) (by decide)
    refine u_325_72_92 ⟨fun hneg => ⟨by omega, ?_⟩, fun hnn => ⟨by omega, ?_⟩⟩
    · rintro V2 hV2
      rw [nn_toNat] at hV2
      refine fin V1 V2 hF1 ?_
      rw [hst, if_pos (Or.inl hneg)]
      exact hV2
    · rw [nn_toNat, hL1.rn_92 ho5]
      refine c_rf_92 hL1 ht ho3 fun V2 hF2 => ?_
      show RY d 325 88 _ _ V2 D Q
      refine u_325_88_92 ⟨fun hz => ?_, fun hz => ⟨by omega, ?_⟩⟩
      · refine keep V2 (hF1.tr hF2) ?_
        rw [hst, eo, if_neg]
        rintro (g | g)
        · exact absurd hnn (Int.not_le.mpr g)
        · rw [if_pos g] at hz
          exact absurd hz (by decide)
      · rintro V3 hV3
        rw [nn_toNat] at hV3
        refine fin V2 V3 (hF1.tr hF2) ?_
        rw [hst, if_pos (Or.inr (Classical.byContradiction fun g => hz (if_neg g)))]
        exact hV3
  · rw [nn_toNat, hlo] at hl
    rw [nn_toNat, hlo]
    have hst : stF p ls t = if beF p ls (letF p) t ≠ -1 ∧ 0 ≤ eR p ls t (beF p ls (letF p) t).toNat then beF p ls (letF p) t else -1 := by
      unfold stF
      rw [if_pos hl]
    refine c_letRooms_92 hL.1 hW ?_
    show RY d 325 19 _ _ V D Q
    refine u_325_19_92 (c_best_92 hL ht (bitsT_lt (by have := hW.1; omega)) fun V1 hF1 => ?_)
    show RY d 325 22 _ _ V1 D Q
    have hL1 := hL.fr hF1 (by decide) (by decide)
    refine u_325_22_92 ⟨fun hn => ?_, fun hn => ?_⟩
    · refine keep V1 hF1 ?_
      rw [hst, if_neg (fun g => g.1 hn), hl]
    · rcases beF_b (ls := ls) (bar := letF p) (t := t) hW with e | ⟨m, e, hm3, _⟩
      · exact absurd e hn
      · rw [e]
        rw [e, nn_toNat] at hst
        have hm5 : m < 5 := by have := hW.1; omega
        refine ⟨by omega, ?_⟩
        rw [nn_toNat, hL1.rn_92 hm5]
        refine c_es_92 hL1 ht hm3 (hW.rent hm3) fun V2 hF2 => ?_
        show RY d 325 45 _ _ V2 D Q
        refine u_325_45_92 ⟨fun hneg => ?_, fun hnn => ⟨by omega, ?_⟩⟩
        · refine keep V2 (hF1.tr hF2) ?_
          rw [hst, if_neg (fun g => absurd g.2 (Int.not_le.mpr hneg)), hl]
        · rintro V3 hV3
          rw [nn_toNat] at hV3
          refine fin V2 V3 (hF1.tr hF2) ?_
          rw [hst, if_pos ⟨by omega, hnn⟩]
          exact hV3
/-! the model -/
def dayF (V V' : xF) : Prop := Fr [405, 406, 411, 412, 413] V V' ∧ (∀ k, ((k ≤ 8 ∧ k ≠ 0) ∨ k = 12 ∨ k = 0 ∨ 19 ≤ k) → V' 405 k = V 405 k) ∧ Bv V'
theorem askF.day {V V' : xF} (h : askF V V') : dayF V V' := ⟨h.1.sub (by decide), h.2.1, h.2.2⟩
theorem dayF.tr {V V' V2 : xF} (h : dayF V V') (h' : dayF V' V2) : dayF V V2 := ⟨h.1.tr h'.1, fun k hk => (h'.2.1 k hk).trans (h.2.1 k hk), h'.2.2⟩
theorem dayF.up {V : xF} {i : Nat} {z : Int} (hB : Bv V) : dayF V (up2 V 406 i z) := ⟨Fr.up (by decide), fun k _ => by rw [up2_na (by decide)], by unfold Bv; rw [up2_na (by decide)]; exact hB⟩
theorem dayF.ws {V V' : xF} (h : dayF V V') (hw : Ws V) : Ws V' := fun a g1 g2 j => by rw [h.1.at_ a (by simp; omega)]; exact hw a g1 g2 j
theorem up406 {V : xF} {i : Nat} {z : Int} : up2 V 406 i z 406 = rup (V 406) i z := by
  funext k
  rw [up2_a]
  rfl
theorem m_lodges (hM : MC V p ls) (hB : Bv V) {t : Nat} (hd : 30 ≤ d) (ht : (t : Int) < p 4)
    (h : ∀ V', dayF V V' → MC V' (lodR p ls t) ls → Q (.inl none) V' D) : RY d 327 0 [vr 405, vi (t : Int), vr 0, vr 0] [] V D Q := by
  obtain ⟨hE, hW, hT, hw⟩ := id hM
  obtain ⟨ht5, hp, htw, htl⟩ := hW.ten ht
  have fin : ∀ V1 V2 : xF, askF V V1 → V2 = up2 V1 406 (53 + 3 * t) (stF p ls t) → Q (.inl none) V2 D := by
    intro V1 V2 hF1 hV2
    have hM1 := hM.k hF1
    have hF2 : dayF V V2 := by rw [hV2]; exact hF1.day.tr (dayF.up hF1.2.2)
    refine h V2 hF2 ⟨?_, lod_WF hW ht, hT.cong (rup_n (by omega)) (rup_n (by omega)) (fun k hk => rup_n (by omega)), hF2.ws hw⟩
    rw [hV2, up406, hM1.1]
  have keep : ∀ V1 : xF, askF V V1 → tL_ p t = stF p ls t → Q (.inl none) V1 D := by
    intro V1 hF1 he
    refine fin V1 V1 hF1 (up2_same ?_).symm
    rw [(hM.k hF1).1]
    exact he
  have ei : wr ((wr ((51 : Int) + (wr ((3 : Int) * (t : Int))))) + 2) = ((53 + 3 * t : Nat) : Int) := by
    rw [wr_id (x := 3 * (t : Int)) (by omega) (by omega), wr_id (x := 51 + 3 * (t : Int)) (by omega) (by omega), wr_id (by omega) (by omega)]
    omega
  have ein : (0 : Int) ≤ ((53 + 3 * t : Nat) : Int) ∧ ((53 + 3 * t : Nat) : Int) < (731 : Int) := by clear ei; omega
  refine u_327_0 ⟨yg143 ht5 (by omega), ?_⟩
  rw [yr143_2 ht5, hE]
  refine ⟨fun hl => ?_, fun hl => ?_⟩
  · have hst : stF p ls t = if beF p ls (letF p) t ≠ -1 ∧ 0 ≤ eR p ls t (beF p ls (letF p) t).toNat then beF p ls (letF p) t else -1 := by
      unfold stF
      rw [if_pos hl]
    refine m_best hM hB hd ht fun V1 hF1 hM1 => ?_
    rw [if_neg (by decide)]
    show RY d 327 53 _ _ V1 D Q
    refine u_327_53 ⟨fun hn => ?_, fun hn => ?_⟩
    · refine keep V1 hF1 ?_
      rw [hst, if_neg (fun g => g.1 hn), hl]
    · rcases beF_b (ls := ls) (bar := letF p) (t := t) hW with e | ⟨m, e, hm3, _⟩
      · exact absurd e hn
      · rw [e]
        rw [e, nn_toNat] at hst
        refine m_es hM1 hd ht hm3 fun V2 hF2 hM2 => ?_
        show RY d 327 65 _ _ V2 D Q
        refine u_327_65 ⟨fun hneg => ?_, fun hnn => ?_⟩
        · refine keep V2 (hF1.tr hF2) ?_
          rw [hst, if_neg (fun g => absurd g.2 (Int.not_le.mpr hneg)), hl]
        · rw [ei]
          refine ⟨ein, ?_⟩
          rintro V3 hV3
          rw [nn_toNat] at hV3
          refine fin V2 V3 (hF1.tr hF2) ?_
          rw [hst, if_pos ⟨by clear ei; omega, hnn⟩]
          exact hV3
  · obtain ⟨o, eo, ho3⟩ := hW.lodN ht hl
    have hst : stF p ls t = if eR p ls t o < 0 ∨ rFR p ls t o = true then -1 else (o : Int) := by
      unfold stF
      rw [if_neg hl, eo, nn_toNat]
    rw [eo]
    refine m_as hM hd ht ho3 fun V1 e17 e18 hF1 hM1 => ?_
    show RY d 327 18 _ _ V1 D Q
    refine u_327_18 ?_
    rw [e17, e18, ei]
    refine ⟨fun hneg => ⟨ein, ?_⟩, fun hnn => ⟨fun hz => ?_, fun hz => ⟨ein, ?_⟩⟩⟩
    · rintro V3 hV3
      rw [nn_toNat] at hV3
      refine fin V1 V3 hF1 ?_
      rw [hst, if_pos (Or.inl hneg)]
      exact hV3
    · refine keep V1 hF1 ?_
      rw [hst, eo, if_neg]
      rintro (g | g)
      · exact absurd hnn (Int.not_le.mpr g)
      · rw [if_pos g] at hz
        exact absurd hz (by decide)
    · rintro V3 hV3
      rw [nn_toNat] at hV3
      refine fin V1 V3 hF1 ?_
      rw [hst, if_pos (Or.inr (Classical.byContradiction fun g => hz (if_neg g)))]
      exact hV3
end SETTLE
