/-! ===== TRADE: THE CLASS ===== -/
section TRADE
variable {d : Nat} {V : xF} {D : yD} {Q : xRes → xF → yD → Prop} {p : Rw} {ls : List Ln}
theorem okP_f {left : Int} {t o : Nat} (h : tb left o = false) : okP p ls left t o = false := by unfold okP; rw [h, Bool.false_and]
theorem c_pts (hL : LC 81 V D p ls) {left : Int} (hl : lfP p left) {t : Nat} (ht : (t : Int) < p 4) (h : ∀ V', Fr [394] V V' → Q (.inl (some (vi (ptI p ls left t)))) V' D) : RY d 317 0 [vr 390, vr 81, vi (t : Int), vi left, vr 0, vr 0, vr 0, vr 0, vr 0] [] V D Q := by
  have hW := hL.2.1
  have h4 := hW.2.1
  refine u_317_0_81 ?_
  obtain ⟨z, hz⟩ : ∃ z, z = pk (esP p ls t) (okP p ls left t) t := ⟨_, rfl⟩
  have go : ∀ (m k : Nat) (V1 : xF) (v7 v8 : xV), (m : Int) + k = p 4 → Fr [394] V V1 → RY d 317 9 [vr 390, vr 81, vi (t : Int), vi left, vi (z k).1, vi (z k).2, vi (k : Int), v7, v8] [] V1 D Q := by
    intro m
    induction m with
    | zero =>
      intro k V1 v7 v8 hk hF
      have hL1 := hL.fr hF (by decide) (by decide)
      refine u_317_9_81 ⟨fun _ => ?_, fun hlt => ?_⟩
      · have := h V1 hF
        unfold ptI at this
        rw [show (p 4).toNat = k by omega, ← hz] at this
        refine ⟨fun hn => ?_, fun hn => ?_⟩
        · rw [if_neg hn] at this; exact this
        · rw [if_pos hn] at this; exact this
      · rw [hL1.1.tens] at hlt; omega
    | succ m ih =>
      intro k V1 v7 v8 hk hF
      have hL1 := hL.fr hF (by decide) (by decide)
      have hk4 : (k : Int) < p 4 := by omega
      have hk5 : k < 5 := by omega
      have e1 : wr ((k : Int) + 1) = ((k + 1 : Nat) : Int) := by rw [wr_id (by omega) (by omega)]; omega
      have hu : z (k + 1) = if okP p ls left t k = true ∧ ((z k).1 = -1 ∨ (z k).2 < esP p ls t k ∨ (esP p ls t k = (z k).2 ∧ k = t)) then ((k : Int), esP p ls t k) else z k := by rw [hz]; rfl
      have no : ∀ V2 v7 v8, Fr [394] V V2 → ¬ (okP p ls left t k = true ∧ ((z k).1 = -1 ∨ (z k).2 < esP p ls t k ∨ (esP p ls t k = (z k).2 ∧ k = t))) → RY d 317 9 [vr 390, vr 81, vi (t : Int), vi left, vi (z k).1, vi (z k).2, vi (wr ((k : Int) + 1)), v7, v8] [] V2 D Q := by
        intro V2 v7 v8 hF2 hn
        have := ih (k + 1) V2 v7 v8 (by clear e1; omega) hF2
        rw [hu, if_neg hn] at this
        rw [e1]; exact this
      have yes : ∀ V2 v7 v8, Fr [394] V V2 → (okP p ls left t k = true ∧ ((z k).1 = -1 ∨ (z k).2 < esP p ls t k ∨ (esP p ls t k = (z k).2 ∧ k = t))) → RY d 317 9 [vr 390, vr 81, vi (t : Int), vi left, vi (k : Int), vi (esP p ls t k), vi (wr ((k : Int) + 1)), v7, v8] [] V2 D Q := by
        intro V2 v7 v8 hF2 hn
        have := ih (k + 1) V2 v7 v8 (by clear e1; omega) hF2
        rw [hu, if_pos hn] at this
        rw [e1]; exact this
      clear e1 hu ih
      have hlo : V1 89 k = tL_ p k := hL1.1.lod hk5
      refine u_317_9_81 ⟨fun hle => ?_, fun _ => ⟨by omega, fun hb => ?_, fun hb => ?_⟩⟩
      · rw [hL1.1.tens] at hle; omega
      · have hb : ¬ tb left k = true := fun g => hb ((tbe hl.1 hk5).mpr g)
        refine no V1 _ _ hF fun g => ?_
        rw [okP_f (by cases hx : tb left k; rfl; exact absurd hx hb)] at g
        exact absurd g.1 (by decide)
      · have hb : tb left k = true := (tbe hl.1 hk5).mp hb
        rw [nn_toNat, hlo]
        have hne := (hl.2 k hk5 hb).2
        refine ⟨fun e => absurd e hne, fun _ => ?_⟩
        obtain ⟨o, eo, ho3⟩ := hW.lodN hk4 hne
        have ho5 : o < 5 := by have := hW.1; omega
        have hok : okP p ls left t k = !rFR p ls t o := by unfold okP; rw [hb, eo, nn_toNat, Bool.true_and]
        have hes : esP p ls t k = eR p ls t o := by unfold esP; rw [eo, nn_toNat]
        rw [eo]
        refine ⟨by omega, ?_⟩
        rw [nn_toNat, hL1.rn_81 ho5]
        refine c_rf_81 hL1 ht ho3 fun V2 hF2 => ?_
        show RY d 317 58 _ _ V2 D Q
        have hL2 := hL1.fr hF2 (by decide) (by decide)
        refine u_317_58_81 ⟨fun hf => ?_, fun hf => ⟨by omega, ?_⟩⟩
        · have hf : rFR p ls t o = true := Classical.byContradiction fun g => hf (if_neg g)
          refine no V2 _ _ (hF.tr hF2) fun g => ?_
          rw [hok, hf] at g
          exact absurd g.1 (by decide)
        · have hf : rFR p ls t o = false := by
            cases hx : rFR p ls t o
            · rfl
            · rw [show rF p ls t o (rR p o) = true from hx] at hf; exact absurd hf (by decide)
          rw [hf] at hok
          rw [nn_toNat, hL2.rn_81 ho5]
          refine c_es_81 hL2 ht ho3 (hW.rent ho3) fun V3 hF3 => ?_
          show RY d 317 76 _ _ V3 D Q
          have F3 := (hF.tr hF2).tr hF3
          rw [show eS p ls t o (rR p o) = esP p ls t k from hes.symm]
          refine u_317_76_81 ⟨fun hm => yes V3 _ _ F3 ⟨hok, Or.inl hm⟩, fun hm => ⟨fun hlt => yes V3 _ _ F3 ⟨hok, Or.inr (Or.inl hlt)⟩, fun hle => ⟨fun hne2 => no V3 _ _ F3 fun g => ?_, fun he => ⟨fun hkt => no V3 _ _ F3 fun g => ?_, fun hkt => yes V3 _ _ F3 ⟨hok, Or.inr (Or.inr ⟨he, by omega⟩)⟩⟩⟩⟩⟩
          · rcases g.2 with g | g | g
            · exact hm g
            · omega
            · exact hne2 g.1
          · rcases g.2 with g | g | g
            · exact hm g
            · omega
            · exact hkt (by rw [g.2])
  have := go (p 4).toNat 0 V (vr 0) (vr 0) (by omega) Fr.rf
  rw [show z 0 = (-1, 0) by rw [hz]; rfl] at this
  exact this
/-- the points of a round -/
def PT (V : xF) (p : Rw) (ls : List Ln) (left : Int) : Prop := ∀ j : Nat, (j : Int) < p 4 → V 402 j = if tb left j = true then ptI p ls left j else -1
theorem c_ring (hL : LC 81 V D p ls) {left : Int} (hl : lfP p left) (hP : PT V p ls left) {t : Nat} (ht : (t : Int) < p 4) (h : Q (.inl (some (vi (if (tb left t && rgB p ls left t) = true then 1 else 0)))) V D) : RY d 318 0 [vr 390, vr 81, vi (t : Int), vr 0, vr 0] [] V D Q := by
  have hW := hL.2.1
  have h4 := hW.2.1
  have ht5 : t < 5 := by omega
  refine u_318_0_81 ⟨by omega, ?_⟩
  rw [nn_toNat, hP t ht]
  by_cases hb : tb left t = true
  · rw [if_pos hb]
    rw [hb, Bool.true_and] at h
    obtain ⟨f, hf⟩ : ∃ f, f = ptN p ls left := ⟨_, rfl⟩
    have hin := ptN_in (ls := ls) hl
    rw [← hf] at hin
    have hpt : ∀ j, (j < 5 ∧ tb left j = true) → ptI p ls left j = ((f j : Nat) : Int) := by
      intro j hj
      obtain ⟨q, e, _, _⟩ := ptI_q (ls := ls) hl hj.1 hj.2
      rw [hf]
      unfold ptN
      rw [e, nn_toNat]
    have go : ∀ (m k : Nat), (m : Int) + k = p 4 → (∀ j, 1 ≤ j → j ≤ k → itf f j t ≠ t) → RY d 318 10 [vr 390, vr 81, vi (t : Int), vi ((itf f (k + 1) t : Nat) : Int), vi (k : Int)] [] V D Q := by
      intro m
      induction m with
      | zero =>
        intro k hk hno
        refine u_318_10_81 ⟨fun _ => ?_, fun hlt => ?_⟩
        · have hr : rgB p ls left t = false := by
            cases hx : rgB p ls left t
            · rfl
            · have := rgB_iff.mp hx
              rw [← hf] at this
              obtain ⟨j, j1, j2, j3⟩ := rg_n (n := (p 4).toNat) hin (fun s hs => by have := (hl.2 s hs.1 hs.2).1; omega) ⟨ht5, hb⟩ this
              exact absurd j3 (hno j j1 (by omega))
          rw [hr] at h
          exact h
        · rw [hL.1.tens] at hlt; omega
      | succ m ih =>
        intro k hk hno
        have hi := itf_in (L := fun t => t < 5 ∧ tb left t = true) hin ⟨ht5, hb⟩ (k + 1)
        have e1 : wr ((k : Int) + 1) = ((k + 1 : Nat) : Int) := by rw [wr_id (by omega) (by omega)]; omega
        refine u_318_10_81 ⟨fun hle => ?_, fun _ => ⟨fun hn => by clear e1; omega, fun _ => ⟨fun hne => ⟨by have := hi.1; clear e1; omega, ?_⟩, fun he => ?_⟩⟩⟩
        · rw [hL.1.tens] at hle; clear e1; omega
        · have hj4 := (hl.2 _ hi.1 hi.2).1
          rw [nn_toNat, hP _ hj4, if_pos hi.2, hpt _ hi, e1]
          clear e1
          refine ih (k + 1) (by omega) fun j j1 j2 => ?_
          by_cases e : j = k + 1
          · rw [e]; intro g; exact hne (by rw [g])
          · exact hno j j1 (by omega)
        · have hr : rgB p ls left t = true := rgB_iff.mpr (by rw [← hf]; exact ⟨k + 1, by omega, by clear e1; omega⟩)
          rw [hr] at h
          exact h
    have := go (p 4).toNat 0 (by omega) (fun j j1 j2 => by omega)
    rw [show ((itf f (0 + 1) t : Nat) : Int) = ptI p ls left t from (hpt t ⟨ht5, hb⟩).symm] at this
    exact this
  · rw [if_neg hb]
    have hb : tb left t = false := by cases hx : tb left t; rfl; exact absurd hx hb
    rw [hb, Bool.false_and] at h
    refine u_318_10_81 ⟨fun _ => h, fun _ => ⟨fun _ => h, fun hn => absurd rfl hn⟩⟩
theorem c_trade (hL : LC 81 V D p ls) {t : Nat} (ht : (t : Int) < p 4) (h : ∀ V', Fr [394, 402, 403] V V' → Q (.inl (some (vi (tradeF p ls t)))) V' D) : RY d 244 0 [vr 390, vr 81, vi (t : Int), vr 0, vr 0, vr 0] [] V D Q := by
  have hW := hL.2.1
  have h4 := hW.2.1
  have ht5 : t < 5 := by omega
  refine u_244_0_81 ?_
  have keep : ∀ {V1 : xF}, Fr [394, 402, 403] V V1 → LC 81 V1 D p ls := fun hF => hL.fr hF (by decide) (by decide)
  -- one round: who is in a ring
  have outs : ∀ (r : Nat) (rest : ∀ V2, Fr [394, 402, 403] V V2 → (∀ j : Nat, (j : Int) < p 4 → V2 403 j = gtF p ls (r + 1) j) → RY d 244 53 [vr 390, vr 81, vi (t : Int), vi (lvF p ls (r + 1)), vi ((r + 1 : Nat) : Int), vi (p 4)] [] V2 D Q), r ≤ 5 → ∀ (m k : Nat) (V1 : xF), (m : Int) + k = p 4 → Fr [394, 402, 403] V V1 → PT V1 p ls (lvF p ls r) → (∀ j : Nat, (j : Int) < p 4 → V1 403 j = if j < k then gtF p ls (r + 1) j else gtF p ls r j) → RY d 244 112 [vr 390, vr 81, vi (t : Int), vi (bitsT (fun j => tb (lvF p ls r) j && !(decide (j < k) && rgB p ls (lvF p ls r) j)) 5), vi (r : Int), vi (k : Int)] [] V1 D Q := by
    intro r rest hr5 m
    have hl := lfP.lv (ls := ls) hW r
    induction m with
    | zero =>
      intro k V1 hk hF hP hG
      have hL1 := keep hF
      refine u_244_112_81 ⟨fun _ => ?_, fun hlt => ?_⟩
      · have e1 : wr ((r : Int) + 1) = ((r + 1 : Nat) : Int) := by rw [wr_id (by omega) (by omega)]; omega
        have e2 : bitsT (fun j => tb (lvF p ls r) j && !(decide (j < k) && rgB p ls (lvF p ls r) j)) 5 = lvF p ls (r + 1) := by
          refine tb_ext (bitsT_lt (Nat.le_refl _)) rd_b fun j hj => ?_
          rw [tb_bitsT hj (Nat.le_refl _), decide_eq_true hj, Bool.true_and]
          show _ = tb (rdF p ls (lvF p ls r)) j
          rw [tb_rd hj]
          cases hx : tb (lvF p ls r) j
          · rfl
          · have := (hl.2 j hj hx).1
            rw [decide_eq_true (by clear e1; omega)]
            cases rgB p ls (lvF p ls r) j <;> rfl
        rw [e1, e2, show (k : Int) = p 4 by clear e1 e2; omega]
        clear e1
        exact rest V1 hF fun j hj => by rw [hG j hj, if_pos (by omega)]
      · rw [hL1.1.tens] at hlt; omega
    | succ m ih =>
      intro k V1 hk hF hP hG
      have hL1 := keep hF
      have hk4 : (k : Int) < p 4 := by omega
      have hk5 : k < 5 := by omega
      have e1 : wr ((k : Int) + 1) = ((k + 1 : Nat) : Int) := by rw [wr_id (by omega) (by omega)]; omega
      have hgu : gtF p ls (r + 1) k = if (tb (lvF p ls r) k && rgB p ls (lvF p ls r) k) = true then ptI p ls (lvF p ls r) k else gtF p ls r k := rfl
      refine u_244_112_81 ⟨fun hle => ?_, fun _ => c_ring hL1 hl hP hk4 ?_⟩
      · rw [hL1.1.tens] at hle; clear e1; omega
      · show RY d 244 128 _ _ V1 D Q
        refine u_244_128_81 ⟨fun hz => ?_, fun hz => ⟨by clear e1; omega, by clear e1; omega, ?_⟩⟩
        · have hz : ¬ (tb (lvF p ls r) k && rgB p ls (lvF p ls r) k) = true := fun g => by rw [if_pos g] at hz; exact absurd hz (by decide)
          rw [if_neg hz] at hgu
          have e2 : bitsT (fun j => tb (lvF p ls r) j && !(decide (j < k) && rgB p ls (lvF p ls r) j)) 5 = bitsT (fun j => tb (lvF p ls r) j && !(decide (j < k + 1) && rgB p ls (lvF p ls r) j)) 5 := by
            refine tb_ext (bitsT_lt (Nat.le_refl _)) (bitsT_lt (Nat.le_refl _)) fun j hj => ?_
            rw [tb_bitsT hj (Nat.le_refl _), tb_bitsT hj (Nat.le_refl _)]
            by_cases e : j = k
            · subst e
              cases hx : tb (lvF p ls r) j
              · rfl
              · have : rgB p ls (lvF p ls r) j = false := by
                  cases hy : rgB p ls (lvF p ls r) j
                  · rfl
                  · rw [hx, hy] at hz; exact absurd rfl hz
                rw [this, Bool.and_false, Bool.and_false]
            · rw [show decide (j < k + 1) = decide (j < k) by rw [decide_eq_decide]; clear e1; omega]
          rw [e1, e2]
          clear e1
          refine ih (k + 1) V1 (by omega) hF hP fun j hj => ?_
          rw [hG j hj]
          by_cases e : j = k
          · subst e
            rw [if_neg (Nat.lt_irrefl _), if_pos (Nat.lt_succ_self _), hgu]
          · by_cases e2 : j < k
            · rw [if_pos e2, if_pos (by omega)]
            · rw [if_neg e2, if_neg (by omega)]
        · have hz : (tb (lvF p ls r) k && rgB p ls (lvF p ls r) k) = true := Classical.byContradiction fun g => hz (if_neg g)
          rw [if_pos hz] at hgu
          rw [Bool.and_eq_true] at hz
          rintro V2 hV2
          rw [nn_toNat, hP k hk4, if_pos hz.1] at hV2
          have o1 := tb_one hk5
          have o2 := tb_dif (x := bitsT (fun j => tb (lvF p ls r) j && !(decide (j < k) && rgB p ls (lvF p ls r) j)) 5) (bitsT_lt (Nat.le_refl _)) o1.1
          have e2 : xand (bitsT (fun j => tb (lvF p ls r) j && !(decide (j < k) && rgB p ls (lvF p ls r) j)) 5) (xxor (xshl 1 (k : Int)) (-1)) = bitsT (fun j => tb (lvF p ls r) j && !(decide (j < k + 1) && rgB p ls (lvF p ls r) j)) 5 := by
            refine tb_ext o2.1 (bitsT_lt (Nat.le_refl _)) fun j hj => ?_
            rw [o2.2 j hj, o1.2 j hj, tb_bitsT hj (Nat.le_refl _), tb_bitsT hj (Nat.le_refl _), decide_eq_true hj, Bool.true_and, Bool.true_and]
            by_cases e : j = k
            · subst e
              rw [decide_eq_true (show j < j + 1 by omega), hz.2, decide_eq_true rfl]
              simp
            · rw [show decide (j < k + 1) = decide (j < k) by rw [decide_eq_decide]; clear e1; omega, decide_eq_false e, Bool.not_false, Bool.and_true]
          rw [e1, e2]
          clear e1 e2
          refine ih (k + 1) V2 (by omega) (by rw [hV2]; exact hF.tr (Fr.up (by decide))) (fun j hj => by rw [hV2, up2_na (by decide)]; exact hP j hj) fun j hj => ?_
          rw [hV2, up2_a, hG j hj]
          by_cases e : j = k
          · subst e
            rw [if_pos rfl, if_pos (Nat.lt_succ_self _), hgu]
          · rw [if_neg e]
            by_cases e2 : j < k
            · rw [if_pos e2, if_pos (by omega)]
            · rw [if_neg e2, if_neg (by omega)]
  -- one round: the points
  have pts : ∀ (r : Nat), (∀ V2, Fr [394, 402, 403] V V2 → PT V2 p ls (lvF p ls r) → (∀ j : Nat, (j : Int) < p 4 → V2 403 j = gtF p ls r j) → RY d 244 112 [vr 390, vr 81, vi (t : Int), vi (lvF p ls r), vi (r : Int), vi 0] [] V2 D Q) → ∀ (m k : Nat) (V1 : xF), (m : Int) + k = p 4 → Fr [394, 402, 403] V V1 → (∀ j : Nat, j < k → V1 402 j = if tb (lvF p ls r) j = true then ptI p ls (lvF p ls r) j else -1) → (∀ j : Nat, (j : Int) < p 4 → V1 403 j = gtF p ls r j) → RY d 244 65 [vr 390, vr 81, vi (t : Int), vi (lvF p ls r), vi (r : Int), vi (k : Int)] [] V1 D Q := by
    intro r rest m
    have hl := lfP.lv (ls := ls) hW r
    induction m with
    | zero =>
      intro k V1 hk hF hP hG
      have hL1 := keep hF
      refine u_244_65_81 ⟨fun _ => rest V1 hF (fun j hj => hP j (by omega)) hG, fun hlt => ?_⟩
      rw [hL1.1.tens] at hlt; omega
    | succ m ih =>
      intro k V1 hk hF hP hG
      have hL1 := keep hF
      have hk4 : (k : Int) < p 4 := by omega
      have hk5 : k < 5 := by omega
      have e1 : wr ((k : Int) + 1) = ((k + 1 : Nat) : Int) := by rw [wr_id (by omega) (by omega)]; omega
      have nxt : ∀ V2 z, Fr [394] V1 V2 → z = (if tb (lvF p ls r) k = true then ptI p ls (lvF p ls r) k else -1) → ∀ V3, V3 = up2 V2 402 k z → RY d 244 65 [vr 390, vr 81, vi (t : Int), vi (lvF p ls r), vi (r : Int), vi (wr ((k : Int) + 1))] [] V3 D Q := by
        intro V2 z hF2 hz V3 hV3
        rw [e1]
        clear e1
        refine ih (k + 1) V3 (by omega) (by rw [hV3]; exact (hF.tr (hF2.sub (by decide))).tr (Fr.up (by decide))) (fun j hj => ?_) (fun j hj => ?_)
        · rw [hV3, up2_a]
          by_cases e : j = k
          · rw [if_pos e, hz, e]
          · rw [if_neg e, hF2.at_ 402 (by decide)]; exact hP j (by omega)
        · rw [hV3, up2_na (by decide), hF2.at_ 403 (by decide)]; exact hG j hj
      clear e1 ih
      refine u_244_65_81 ⟨fun hle => ?_, fun _ => ⟨fun hb => ⟨by omega, ?_⟩, fun hb => ?_⟩⟩
      · rw [hL1.1.tens] at hle; omega
      · rintro V2 hV2
        rw [nn_toNat] at hV2
        have hb : ¬ tb (lvF p ls r) k = true := fun g => hb ((tbe hl.1 hk5).mpr g)
        exact nxt V1 _ Fr.rf (by rw [if_neg hb]) V2 hV2
      · have hb : tb (lvF p ls r) k = true := (tbe hl.1 hk5).mp hb
        refine c_pts hL1 hl hk4 fun V2 hF2 => ?_
        show RY d 244 98 _ _ V2 D Q
        refine u_244_98_81 ⟨by omega, ?_⟩
        rintro V3 hV3
        rw [nn_toNat] at hV3
        exact nxt V2 _ hF2 (by rw [if_pos hb]) V3 hV3
  -- all rounds
  have rounds : ∀ (m r : Nat) (V1 : xF) (v5 : xV), (m : Int) + r = p 4 → Fr [394, 402, 403] V V1 → (∀ j : Nat, (j : Int) < p 4 → V1 403 j = gtF p ls r j) → RY d 244 53 [vr 390, vr 81, vi (t : Int), vi (lvF p ls r), vi (r : Int), v5] [] V1 D Q := by
    intro m
    induction m with
    | zero =>
      intro r V1 v5 hr hF hG
      have hL1 := keep hF
      refine u_244_53_81 ⟨fun _ => ⟨by omega, ?_⟩, fun hlt => ?_⟩
      · rw [nn_toNat, hG t ht, show r = (p 4).toNat by omega]
        exact h V1 hF
      · rw [hL1.1.tens] at hlt; omega
    | succ m ih =>
      intro r V1 v5 hr hF hG
      have hL1 := keep hF
      refine u_244_53_81 ⟨fun hle => ?_, fun _ => ?_⟩
      · rw [hL1.1.tens] at hle; omega
      · refine pts r (fun V2 hF2 hP2 hG2 => ?_) (p 4).toNat 0 V1 (by omega) hF (fun j hj => absurd hj (Nat.not_lt_zero _)) hG
        have := outs r (fun V3 hF3 hG3 => ih (r + 1) V3 _ (by omega) hF3 hG3) (by omega) (p 4).toNat 0 V2 (by omega) hF2 hP2 (fun j hj => by rw [if_neg (Nat.not_lt_zero _)]; exact hG2 j hj)
        have e2 : bitsT (fun j => tb (lvF p ls r) j && !(decide (j < 0) && rgB p ls (lvF p ls r) j)) 5 = lvF p ls r := by
          refine tb_ext (bitsT_lt (Nat.le_refl _)) (lfP.lv hW r).1 fun j hj => ?_
          rw [tb_bitsT hj (Nat.le_refl _), decide_eq_true hj, decide_eq_false (Nat.not_lt_zero j), Bool.false_and, Bool.not_false, Bool.and_true, Bool.true_and]
        rw [e2] at this
        exact this
  -- ahead of the rounds
  have start : ∀ (m k : Nat) (V1 : xF), (m : Int) + k = p 4 → Fr [394, 402, 403] V V1 → (∀ j : Nat, j < k → V1 403 j = -1) → RY d 244 5 [vr 390, vr 81, vi (t : Int), vi (bitsT (fun t => decide (tL_ p t ≠ -1)) k), vi (k : Int), vr 0] [] V1 D Q := by
    intro m
    induction m with
    | zero =>
      intro k V1 hk hF hG
      have hL1 := keep hF
      refine u_244_5_81 ⟨fun _ => ?_, fun hlt => ?_⟩
      · rw [show bitsT (fun t => decide (tL_ p t ≠ -1)) k = lvF p ls 0 by rw [show k = (p 4).toNat by omega]; rfl]
        exact rounds (p 4).toNat 0 V1 _ (by omega) hF fun j hj => hG j (by omega)
      · rw [hL1.1.tens] at hlt; omega
    | succ m ih =>
      intro k V1 hk hF hG
      have hL1 := keep hF
      have hk4 : (k : Int) < p 4 := by omega
      have hk5 : k < 5 := by omega
      have e1 : wr ((k : Int) + 1) = ((k + 1 : Nat) : Int) := by rw [wr_id (by omega) (by omega)]; omega
      refine u_244_5_81 ⟨fun hle => ?_, fun _ => ⟨by clear e1; omega, ?_⟩⟩
      · rw [hL1.1.tens] at hle; clear e1; omega
      · rintro V2 hV2
        rw [nn_toNat] at hV2
        have hlo : V2 89 k = tL_ p k := by rw [hV2, up2_na (by decide)]; exact hL1.1.lod hk5
        have := ih (k + 1) V2 (by clear e1; omega) (by rw [hV2]; exact hF.tr (Fr.up (by decide))) (fun j hj => by
          rw [hV2, up2_a]
          by_cases e : j = k
          · rw [if_pos e]
          · rw [if_neg e]; exact hG j (by clear e1; omega))
        rw [show bitsT (fun t => decide (tL_ p t ≠ -1)) (k + 1) = if decide (tL_ p k ≠ -1) = true then xor_ (bitsT (fun t => decide (tL_ p t ≠ -1)) k) (xshl 1 (k : Int)) else bitsT (fun t => decide (tL_ p t ≠ -1)) k from rfl] at this
        rw [nn_toNat, hlo, e1]
        refine ⟨by clear e1; omega, fun hn => ?_, fun hn => ?_⟩
        · rw [if_pos (decide_eq_true hn)] at this
          exact this
        · rw [if_neg (by rw [decide_eq_false (fun g => g hn)]; decide)] at this
          rw [or_0 (by clear e1; omega)]
          exact this
  exact start (p 4).toNat 0 V (by omega) Fr.rf (fun j hj => absurd hj (Nat.not_lt_zero _))
end TRADE
