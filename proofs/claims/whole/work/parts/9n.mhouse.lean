/-! ===== THE MODEL READS LINES OF THE HOUSE ===== -/
def r6 (V : xF) (p : Rw) : xF := fun a => if a = 406 then p else V a
def HR (V : xF) (T : TK) (m N : Nat) : Prop := okT T m N ∧ (V 405 10 = (m : Int) ∧ m ≤ 400 ∧ V 405 9 = -1 ∧ ∀ k, k < m → V 410 k = T.1 k) ∧ Ws V ∧ Bv V
def gdB (T : TK) (i : Nat) : Nat → Bool
  | 0 => true
  | n + 1 => gdB T i n && (decide (srv T i n ≠ -1) && decide (n < 4))
def svV (T : TK) (i : Nat) : Nat → Int
  | 0 => 0
  | n + 1 => if n < 4 then 5 * svV T i n + (if srv T i n < 0 then 0 else srv T i n) else svV T i n
theorem gd_iff {T : TK} {i : Nat} : ∀ {n : Nat}, gdB T i n = true ↔ n ≤ 4 ∧ ∀ k, k < n → srv T i k ≠ -1
  | 0 => ⟨fun _ => ⟨by omega, fun k hk => absurd hk (Nat.not_lt_zero k)⟩, fun _ => rfl⟩
  | n + 1 => by
    show (gdB T i n && (decide (srv T i n ≠ -1) && decide (n < 4))) = true ↔ _
    rw [Bool.and_eq_true, Bool.and_eq_true, gd_iff (n := n), decide_eq_true_iff, decide_eq_true_iff]
    constructor
    · rintro ⟨⟨h1, h2⟩, h3, h4⟩
      refine ⟨by omega, fun k hk => ?_⟩
      by_cases e : k = n
      · rw [e]; exact h3
      · exact h2 k (by omega)
    · rintro ⟨h1, h2⟩
      exact ⟨⟨by omega, fun k hk => h2 k (by omega)⟩, h2 n (by omega), by omega⟩
theorem sv_b {T : TK} {i : Nat} : ∀ n : Nat, 0 ≤ svV T i n ∧ svV T i n ≤ 624 ∧ (n ≤ 3 → svV T i n ≤ 124) ∧ (n ≤ 2 → svV T i n ≤ 24) ∧ (n ≤ 1 → svV T i n ≤ 4) ∧ (n = 0 → svV T i n = 0)
  | 0 => by
    show (0 : Int) ≤ 0 ∧ (0 : Int) ≤ 624 ∧ _ ∧ _ ∧ _ ∧ _
    refine ⟨by omega, by omega, fun _ => ?_, fun _ => ?_, fun _ => ?_, fun _ => rfl⟩ <;> show (0 : Int) ≤ _ <;> omega
  | n + 1 => by
    have ih := sv_b (T := T) (i := i) n
    have hb := srt_b (T.1 ((T.2.2.1 i).toNat + n))
    have hs : srv T i n = srt (T.1 ((T.2.2.1 i).toNat + n)) := rfl
    unfold svV
    rw [hs]
    by_cases h4 : n < 4
    · rw [if_pos h4]
      split <;> omega
    · rw [if_neg h4]
      omega
theorem rup_id {p : Rw} {k : Nat} {z : Int} (h : p k = z) : rup p k z = p := by
  funext j
  unfold rup
  split
  · rename_i e; rw [e]; exact h.symm
  · rfl
section MHOUSE
variable {V : xF} {D : yD} {T : TK} {m N : Nat} {p : Rw} {a f dp : Int}
theorem r6_6 : r6 V p 406 = p := by unfold r6; rw [if_pos rfl]
theorem r6_n {c : Nat} (h : c ≠ 406) : r6 V p c = V c := by unfold r6; rw [if_neg h]
theorem r6_id : r6 V (V 406) = V := by
  funext c
  unfold r6
  split
  · rename_i e; rw [e]
  · rfl
theorem r6_up {k : Nat} {z : Int} : up2 (mst (r6 V p) a f dp) 406 k z = mst (r6 V (rup p k z)) a f dp := by
  funext c j
  by_cases hc : c = 406
  · subst hc
    rw [up2_a, mst_n (by decide), mst_n (by decide), r6_6, r6_6]
    rfl
  · rw [up2_na hc]
    by_cases h5 : c = 405
    · subst h5
      unfold mst
      rw [up2_a, up2_a, up2_a, up2_a, up2_a, up2_a, r6_n (by decide), r6_n (by decide)]
    · rw [mst_n h5, mst_n h5, r6_n hc, r6_n hc]
theorem HR.lr (h : HR V T m N) {p : Rw} : LR (r6 V p) T m N := by
  obtain ⟨h1, ⟨h2, h3, h4, h5⟩, h6, h7⟩ := h
  refine ⟨h1, ⟨by rw [r6_n (by decide)]; exact h2, h3, Or.inl ⟨by rw [r6_n (by decide)]; exact h4, fun k hk => by rw [r6_n (by decide)]; exact h5 k hk⟩⟩, fun a g1 g2 j => by rw [r6_n (by omega)]; exact h6 a g1 g2 j, ?_⟩
  unfold Bv
  rw [r6_n (by decide)]
  exact h7
theorem HR.nn (h : HR V T m N) {i : Nat} (hi : i ≤ N) : T.2.2.1 i ≠ -1 ∧ 0 ≤ T.2.2.1 i := by have := h.1.bnd hi; omega
theorem HR.num (hR : HR V T m N) {d i : Nat} {lo hi : Int} {Q : xRes → xF → yD → Prop} (hi' : i ≤ N) (ha : Ah T i a)
    (h1 : isN T i lo hi → i < N → Ah T (i + 1) (T.2.2.2 i) → Q (.inl (some (vi (nv T i)))) (mst (r6 V p) (T.2.2.2 i) (-1) dp) D) (h0 : ¬ isN T i lo hi → ∀ v a', 0 ≤ a' → Q (.inl (some (vi v))) (mst (r6 V p) a' (T.2.2.1 i) dp) D) : RY d 303 0 [vr 405, vi lo, vi hi, vr 0, vr 0] [] (mst (r6 V p) a (-1) dp) D Q := by
  refine m_fig hR.1 hR.lr.2.1 hi' ha (fun v hv => ?_) (fun hno v a' h9 _ => h0 (fun ⟨v, hv⟩ => hno v hv) v a' h9)
  have hlt := kN_lt hR.1 hi' hv
  have := h1 ⟨v, hv⟩ hlt (Ah.nxt hR.1 hlt)
  rw [← kN_nv hv] at this
  exact this
theorem HR.exp (hR : HR V T m N) {d i w : Nat} {Q : xRes → xF → yD → Prop} (hw1 : 3 ≤ w) (hw2 : w < 70) (hi' : i ≤ N) (ha : Ah T i a)
    (h1 : i < N → kW T i (wdS w) → Ah T (i + 1) (T.2.2.2 i) → Q (.inl (some (vi 1))) (mst (r6 V p) (T.2.2.2 i) (-1) dp) D) (h0 : ¬ kW T i (wdS w) → Q (.inl (some (vi 0))) (mst (r6 V p) (T.2.2.1 i) (T.2.2.1 i) dp) D) : RY d 360 0 [vr 405, vr w, vr 0] [] (mst (r6 V p) a (-1) dp) D Q := by
  refine u_360_0 ⟨fun _ => ⟨by omega, hR.lr.has hw1 hw2 hi' ha (fun hlt ht => ?_) (fun ht => ?_)⟩, fun h5 => absurd mst_12 h5⟩
  · show RY d 360 15 _ _ _ D Q
    exact u_360_15 ⟨fun _ => ⟨Or.inr rfl, h1 hlt ht (Ah.nxt hR.1 hlt)⟩, fun h5 => absurd h5 (by decide)⟩
  · show RY d 360 15 _ _ _ D Q
    refine u_360_15 ⟨fun h5 => absurd rfl h5, fun _ => ⟨fun h5 => absurd mst_12 h5, fun _ V1 hV1 => ⟨Or.inl rfl, ?_⟩⟩⟩
    rw [hV1, mst_11, mst_w12]
    exact h0 ht
theorem bad_num {d : Nat} {lo hi : Int} {Q : xRes → xF → yD → Prop} (hb : V 405 12 ≠ -1) (h : Q (.inl (some (vi 0))) V D) : RY d 303 0 [vr 405, vi lo, vi hi, vr 0, vr 0] [] V D Q := u_303_0 ⟨fun h5 => absurd h5 hb, fun _ => h⟩
theorem bad_exp {d w : Nat} {Q : xRes → xF → yD → Prop} (hb : V 405 12 ≠ -1) (h : Q (.inl (some (vi 0))) V D) : RY d 360 0 [vr 405, vr w, vr 0] [] V D Q := u_360_0 ⟨fun h5 => absurd h5 hb, fun _ => h⟩
theorem HR.bhere (hR : HR V T m N) {d : Nat} {Q : xRes → xF → yD → Prop} (ha : 0 ≤ a) (h : ∀ a', 0 ≤ a' → Q (.inl (some (vi a'))) (mst (r6 V p) a' f dp) D) : RY d 305 0 [vr 405] [] (mst (r6 V p) a f dp) D Q := by
  have h4 := hR.2.1.2.1
  refine u_305_0 (m_skipF hR.lr.2.1 (fun a' h0 => ?_) 400 a ha (by omega))
  show RY d 305 4 _ _ _ D Q
  refine u_305_4 ?_
  rw [mst_11]
  exact h a' h0
theorem HR.sorts (hR : HR V T m N) {d i : Nat} {Q : xRes → xF → yD → Prop} (hi : i ≤ N) (ha : Ah T i a)
    (h1 : isS T i → i < N → Ah T (i + 1) (T.2.2.2 i) → Q (.inl (some (vi (((srv T i 0 * 5 + srv T i 1) * 5 + srv T i 2) * 5 + srv T i 3)))) (mst (r6 V p) (T.2.2.2 i) (-1) dp) D)
    (h0 : ¬ isS T i → ∀ v, Q (.inl (some (vi v))) (mst (r6 V p) (T.2.2.1 i) (T.2.2.1 i) dp) D) : RY d 361 0 [vr 405, vr 0, vr 0, vr 0, vr 0, vr 0, vr 0] [] (mst (r6 V p) a (-1) dp) D Q := by
  have hT := hR.1
  have hM := (hR.lr (p := p)).2.1
  have hm4 := hM.2.1
  have hb := hT.bnd hi
  refine u_361_0 ⟨fun _ => m_here hT hM hi ha ?_, fun h5 => absurd mst_12 h5⟩
  show RY d 361 14 _ _ _ D Q
  refine u_361_14 ?_
  have no : ¬ isS T i → ∀ (n v g : Int) (v5 v6 : xV), RY d 361 175 [vr 405, vi (T.2.2.1 i), vi n, vi v, vi g, v5, v6] [] (mst (r6 V p) (T.2.2.1 i) (-1) dp) D Q := fun hno n v g v5 v6 => by
    refine u_361_175 ⟨fun h5 => absurd mst_12 h5, fun _ V1 hV1 => u_361_190 ?_⟩
    rw [hV1, mst_w12]
    exact h0 hno v
  have fin : ∀ (n : Nat) (v5 v6 : xV), T.2.2.1 i + (n : Int) ≤ (m : Int) → (∀ j, j < n → kof (T.1 ((T.2.2.1 i).toNat + j)) = 1) → ¬ (T.2.2.1 i + (n : Int) < (m : Int) ∧ kof (T.1 ((T.2.2.1 i).toNat + n)) = 1) →
      RY d 361 165 [vr 405, vi (T.2.2.1 i), vi (n : Int), vi (svV T i n), vi (if gdB T i n = true then 1 else 0), v5, v6] [] (mst (r6 V p) (T.2.2.1 i) (-1) dp) D Q := by
    intro n v5 v6 hn hrun hend
    obtain ⟨r1, r2, r3, r4⟩ := run_len hT hi 1 (Or.inl rfl) n hn hrun
    by_cases hg : gdB T i n = true
    · rw [if_pos hg]
      have hgd := gd_iff.mp hg
      refine u_361_165 ⟨fun h5 => absurd h5 (by decide), fun _ => ⟨fun h5 V1 hV1 => ?_, fun h5 => no (fun hs => h5 ?_) _ _ _ _ _⟩⟩
      · have hn4 : n = 4 := by omega
        subst hn4
        have hK : T.2.1 i = 1 := Classical.byContradiction fun hc => absurd (r2 hc) (by decide)
        have hE := r4 hend hK
        have hs : isS T i := ⟨hK, by omega, hgd.2⟩
        have hlt := isS_lt hT hi hs
        have e1 : wr (T.2.2.1 i + ((4 : Nat) : Int)) = T.2.2.2 i := by rw [wr_id (by omega) (by omega)]; omega
        rw [e1, mst_w11] at hV1
        clear e1
        have nn : ∀ k, k < 4 → ¬ srv T i k < 0 := fun k hk => by
          have a1 := hgd.2 k hk
          have a2 := srt_b (T.1 ((T.2.2.1 i).toNat + k))
          unfold srv at *
          omega
        have ev : svV T i 4 = ((srv T i 0 * 5 + srv T i 1) * 5 + srv T i 2) * 5 + srv T i 3 := by
          have s1 : svV T i 1 = 5 * 0 + srv T i 0 := by
            show (if 0 < 4 then 5 * svV T i 0 + (if srv T i 0 < 0 then 0 else srv T i 0) else svV T i 0) = _
            rw [if_pos (by omega), if_neg (nn 0 (by omega))]; rfl
          have s2 : svV T i 2 = 5 * svV T i 1 + srv T i 1 := by
            show (if 1 < 4 then 5 * svV T i 1 + (if srv T i 1 < 0 then 0 else srv T i 1) else svV T i 1) = _
            rw [if_pos (by omega), if_neg (nn 1 (by omega))]
          have s3 : svV T i 3 = 5 * svV T i 2 + srv T i 2 := by
            show (if 2 < 4 then 5 * svV T i 2 + (if srv T i 2 < 0 then 0 else srv T i 2) else svV T i 2) = _
            rw [if_pos (by omega), if_neg (nn 2 (by omega))]
          have s4 : svV T i 4 = 5 * svV T i 3 + srv T i 3 := by
            show (if 3 < 4 then 5 * svV T i 3 + (if srv T i 3 < 0 then 0 else srv T i 3) else svV T i 3) = _
            rw [if_pos (by omega), if_neg (nn 3 (by omega))]
          omega
        rw [ev]
        refine u_361_190 ?_
        rw [hV1]
        exact h1 hs hlt (Ah.nxt hT hlt)
      · have := r4 hend hs.1
        have := hs.2.1
        omega
    · rw [if_neg hg]
      refine u_361_165 ⟨fun _ => no (fun hs => hg (gd_iff.mpr ?_)) _ _ _ _ _, fun h5 => absurd rfl h5⟩
      have e := r4 hend hs.1
      have e2 := hs.2.1
      have e3 : n = 4 := by omega
      rw [e3]
      exact ⟨Nat.le_refl _, hs.2.2⟩
  have scan : ∀ (c n : Nat) (v5 v6 : xV), T.2.2.1 i + (n : Int) + c = (m : Int) → (∀ j, j < n → kof (T.1 ((T.2.2.1 i).toNat + j)) = 1) → RY d 361 22 [vr 405, vi (T.2.2.1 i), vi (n : Int), vi (svV T i n), vi (if gdB T i n = true then 1 else 0), v5, v6] [] (mst (r6 V p) (T.2.2.1 i) (-1) dp) D Q := by
    intro c
    induction c with
    | zero =>
      intro n v5 v6 hc hrun
      refine u_361_22 ?_
      rw [mst_k (by decide) (by decide) (by decide), hM.1, wr_id (x := T.2.2.1 i + (n : Int)) (by omega) (by omega)]
      exact ⟨fun _ => fin n v5 v6 (by omega) hrun (fun hx => by omega), fun h5 => by omega⟩
    | succ c ih =>
      intro n v5 v6 hc hrun
      have y := mt301 (a := T.2.2.1 i) (f := -1) (dp := dp) (D := D) (k := (T.2.2.1 i).toNat + n) hM (by omega)
      rw [show (((T.2.2.1 i).toNat + n : Nat) : Int) = T.2.2.1 i + (n : Int) by omega] at y
      have sb := sv_b (T := T) (i := i) n
      refine u_361_22 ?_
      rw [mst_k (by decide) (by decide) (by decide), hM.1, wr_id (x := T.2.2.1 i + (n : Int)) (by omega) (by omega)]
      refine ⟨fun h5 => by omega, fun _ => ⟨y.1, ?_⟩⟩
      rw [y.2, yr124]
      obtain ⟨ch, hch⟩ : ∃ ch, ch = T.1 ((T.2.2.1 i).toNat + n) := ⟨_, rfl⟩
      have hsr : srv T i n = srt ch := by rw [hch]; rfl
      rw [← hch]
      by_cases hl : 97 ≤ ch ∧ ch ≤ 122
      · rw [if_pos hl]
        refine ⟨fun h5 => absurd h5 (by decide), fun _ => ⟨y.1, ?_⟩⟩
        have nxt : ∀ (v5 v6 : xV), RY d 361 22 [vr 405, vi (T.2.2.1 i), vi ((n + 1 : Nat) : Int), vi (svV T i (n + 1)), vi (if gdB T i (n + 1) = true then 1 else 0), v5, v6] [] (mst (r6 V p) (T.2.2.1 i) (-1) dp) D Q := fun v5 v6 => ih (n + 1) v5 v6 (by omega) (fun j hj => by
          by_cases e : j = n
          · rw [e, ← hch]; exact kof_l.mpr hl
          · exact hrun j (by omega))
        have after : RY d 361 139 [vr 405, vi (T.2.2.1 i), vi (n : Int), vi (svV T i n), vi (if gdB T i (n + 1) = true then 1 else 0), vi ch, vi (srt ch)] [] (mst (r6 V p) (T.2.2.1 i) (-1) dp) D Q := by
          have e1 : wr ((n : Int) + 1) = ((n + 1 : Nat) : Int) := by rw [wr_id (by omega) (by omega)]; omega
          have esv : svV T i (n + 1) = if n < 4 then 5 * svV T i n + (if srv T i n < 0 then 0 else srv T i n) else svV T i n := rfl
          have nx := nxt (vi ch) (vi (srt ch))
          rw [esv, hsr] at nx
          refine u_361_139 ⟨fun h5 => u_361_159 ?_, fun h5 => u_361_159 ?_⟩
          · rw [if_neg (by clear e1; omega)] at nx
            rw [e1]; exact nx
          · rw [if_pos (by clear e1; omega)] at nx
            have hb2 := srt_b ch
            have e2 : wr ((wr ((5 : Int) * (svV T i n))) + (yr_185 0 (srt ch) (mst (r6 V p) (T.2.2.1 i) (-1) dp) D)) = 5 * svV T i n + (if srt ch < 0 then 0 else srt ch) := by
              clear e1
              have e3 : yr_185 0 (srt ch) (mst (r6 V p) (T.2.2.1 i) (-1) dp) D = if srt ch < 0 then 0 else srt ch := rfl
              rw [e3, wr_id (x := (5 : Int) * (svV T i n)) (by omega) (by omega)]
              split <;> exact wr_id (by omega) (by omega)
            rw [e2, e1]; exact nx
        have rest : RY d 361 116 [vr 405, vi (T.2.2.1 i), vi (n : Int), vi (svV T i n), vi (if gdB T i n = true then 1 else 0), vi ch, vi (srt ch)] [] (mst (r6 V p) (T.2.2.1 i) (-1) dp) D Q := by
          have eg : gdB T i (n + 1) = (gdB T i n && (decide (srv T i n ≠ -1) && decide (n < 4))) := rfl
          rw [eg, hsr] at after
          by_cases hg : gdB T i n = true
          · rw [if_pos hg]
            rw [hg, Bool.true_and] at after
            refine u_361_116 ⟨fun h5 => absurd h5 (by decide), fun _ => ⟨fun h5 => u_361_136 ?_, fun h5 => ⟨fun h6 => u_361_136 ?_, fun h6 => ?_⟩⟩⟩
            · rw [if_neg (by rw [h5]; simp)] at after; exact after
            · rw [if_neg (by rw [decide_eq_false (show ¬ n < 4 by omega)]; simp)] at after; exact after
            · rw [if_pos (by rw [decide_eq_true h5, decide_eq_true (show n < 4 by omega)]; rfl)] at after; exact after
          · rw [if_neg hg]
            rw [Bool.eq_false_iff.mpr hg, Bool.false_and, if_neg (by decide)] at after
            exact u_361_116 ⟨fun _ => u_361_136 after, fun h5 => absurd rfl h5⟩
        refine ⟨fun h1 => ⟨fun h2 => ⟨fun h3 => ⟨fun h4 => ⟨fun h5 => ?_, fun h5 => ?_⟩, fun h4 => ?_⟩, fun h3 => ?_⟩, fun h2 => ?_⟩, fun h1 => ?_⟩
        · rw [show srt ch = -1 by unfold srt; rw [if_neg h1, if_neg h2, if_neg h3, if_neg h4, if_neg h5]] at rest; exact rest
        · rw [show srt ch = 4 by unfold srt; rw [if_neg h1, if_neg h2, if_neg h3, if_neg h4, if_pos h5]] at rest; exact rest
        · rw [show srt ch = 3 by unfold srt; rw [if_neg h1, if_neg h2, if_neg h3, if_pos h4]] at rest; exact rest
        · rw [show srt ch = 2 by unfold srt; rw [if_neg h1, if_neg h2, if_pos h3]] at rest; exact rest
        · rw [show srt ch = 1 by unfold srt; rw [if_neg h1, if_pos h2]] at rest; exact rest
        · rw [show srt ch = 0 by unfold srt; rw [if_pos h1]] at rest; exact rest
      · rw [if_neg hl]
        exact ⟨fun _ => fin n v5 v6 (by omega) hrun (fun hx => hl (by rw [hch]; exact kof_l.mp hx.2)), fun h5 => absurd rfl h5⟩
  have := scan ((m : Int) - T.2.2.1 i).toNat 0 (vr 0) (vr 0) (by omega) (fun j hj => absurd hj (Nat.not_lt_zero j))
  exact this
/-! ===== a room is put down ===== -/
theorem m_rmwall {d n k : Nat} {c z i1 w dd : Int} {q : Rw} {Q : xRes → xF → yD → Prop} (hn : n < 5) (hk : k < 4) (hc : 0 ≤ c ∧ c ≤ 624)
    (h : RY d 306 139 [vr 405, vi i1, vi w, vi dd, vi (c / 5), vi z, vi ((16 + 7 * n : Nat) : Int), vi ((k : Int) - 1)] [] (mst (r6 V (rup q (18 + 7 * n + k) (c % 5))) a f dp) D Q) : RY d 306 139 [vr 405, vi i1, vi w, vi dd, vi c, vi z, vi ((16 + 7 * n : Nat) : Int), vi (k : Int)] [] (mst (r6 V q) a f dp) D Q := by
  refine u_306_139 ⟨fun h5 => by omega, fun _ => ?_⟩
  have e1 : wr ((wr (((16 + 7 * n : Nat) : Int) + 2)) + (k : Int)) = ((18 + 7 * n + k : Nat) : Int) := by rw [wr_id (x := ((16 + 7 * n : Nat) : Int) + 2) (by omega) (by omega), wr_id (by omega) (by omega)]; omega
  have e2 : wr ((k : Int) + (-1)) = (k : Int) - 1 := by clear e1; rw [wr_id (by omega) (by omega)]; omega
  have e3 : wr (c.tdiv 5) = c / 5 := by clear e1 e2; rw [tdiv_nn (by omega), wr_id (by omega) (by omega)]
  have e4 : c.tmod 5 = c % 5 := tmod_nn (by omega)
  rw [e1, e2, e3, e4]
  clear e1 e2 e3 e4
  refine ⟨by omega, ?_⟩
  rintro V2 rfl
  rw [nn_toNat, r6_up]
  exact h
theorem m_rmput {d : Nat} {i1 w dd code z : Int} {s : Nat → Int} {Q : xRes → xF → yD → Prop} (hW : WF p) (h3 : p 3 < 5) (hs : ∀ k, k < 4 → 0 ≤ s k ∧ s k ≤ 4) (hc : code = ((s 0 * 5 + s 1) * 5 + s 2) * 5 + s 3) (h : Q (.inl none) (mst (r6 V (rmR p w dd z s)) a (-1) 0) D) :
    (((mst (r6 V p) a (-1) 0) 405 12) = ((-1)) → (((0 : Int) ≤ wr ((wr ((16 : Int) + (wr ((7 : Int) * ((mst (r6 V p) a (-1) 0) 406 3))))) + 0) ∧ wr ((wr ((16 : Int) + (wr ((7 : Int) * ((mst (r6 V p) a (-1) 0) 406 3))))) + 0) < (731 : Int)) ∧ (∀ V1 : xF, V1 = up2 (mst (r6 V p) a (-1) 0) 406 ((wr ((wr ((16 : Int) + (wr ((7 : Int) * ((mst (r6 V p) a (-1) 0) 406 3))))) + 0)).toNat) w → (((0 : Int) ≤ wr ((wr ((16 : Int) + (wr ((7 : Int) * ((mst (r6 V p) a (-1) 0) 406 3))))) + 1) ∧ wr ((wr ((16 : Int) + (wr ((7 : Int) * ((mst (r6 V p) a (-1) 0) 406 3))))) + 1) < (731 : Int)) ∧ (∀ V2 : xF, V2 = up2 V1 406 ((wr ((wr ((16 : Int) + (wr ((7 : Int) * ((mst (r6 V p) a (-1) 0) 406 3))))) + 1)).toNat) dd → RY d 306 139 [vr 405, vi i1, vi w, vi dd, vi code, vi z, vi (wr ((16 : Int) + (wr ((7 : Int) * ((mst (r6 V p) a (-1) 0) 406 3))))), vi 3] [] V2 D Q))))) ∧ (((mst (r6 V p) a (-1) 0) 405 12) ≠ ((-1)) → Q (.inl none) (mst (r6 V p) a (-1) 0) D) := by
  have r3 := hW.1
  obtain ⟨n, hn⟩ : ∃ n : Nat, p 3 = (n : Int) := ⟨(p 3).toNat, by omega⟩
  have e3 : (mst (r6 V p) a (-1) 0) 406 3 = (n : Int) := by rw [mst_n (by decide), r6_6]; exact hn
  have hnn : (p 3).toNat = n := by omega
  have hn5 : n < 5 := by omega
  have a0 := hs 0 (by omega)
  have a1 := hs 1 (by omega)
  have a2 := hs 2 (by omega)
  have a3 := hs 3 (by omega)
  have e6 : wr ((16 : Int) + (wr ((7 : Int) * (n : Int)))) = ((16 + 7 * n : Nat) : Int) := by rw [wr_id (x := (7 : Int) * (n : Int)) (by omega) (by omega), wr_id (by omega) (by omega)]; omega
  have e0 : wr (((16 + 7 * n : Nat) : Int) + 0) = ((16 + 7 * n : Nat) : Int) := by clear e6; rw [wr_id (by omega) (by omega)]; omega
  have e1 : wr (((16 + 7 * n : Nat) : Int) + 1) = ((17 + 7 * n : Nat) : Int) := by clear e6 e0; rw [wr_id (by omega) (by omega)]; omega
  rw [e3, e6, e0, e1]
  clear e6 e0 e1
  refine ⟨fun _ => ⟨by omega, ?_⟩, fun h5 => absurd mst_12 h5⟩
  rintro V1 rfl
  refine ⟨by omega, ?_⟩
  rintro V2 rfl
  rw [nn_toNat, nn_toNat, r6_up, r6_up]
  have hcb : 0 ≤ code ∧ code ≤ 624 := by omega
  refine m_rmwall (k := 3) hn5 (by omega) hcb ?_
  rw [show ((3 : Nat) : Int) - 1 = ((2 : Nat) : Int) from rfl]
  refine m_rmwall (k := 2) hn5 (by omega) (by omega) ?_
  rw [show ((2 : Nat) : Int) - 1 = ((1 : Nat) : Int) from rfl]
  refine m_rmwall (k := 1) hn5 (by omega) (by omega) ?_
  rw [show ((1 : Nat) : Int) - 1 = ((0 : Nat) : Int) from rfl]
  refine m_rmwall (k := 0) hn5 (by omega) (by omega) ?_
  rw [show ((0 : Nat) : Int) - 1 = -1 from rfl, show 18 + 7 * n + 3 = 21 + 7 * n by omega, show 18 + 7 * n + 2 = 20 + 7 * n by omega, show 18 + 7 * n + 1 = 19 + 7 * n by omega, show 18 + 7 * n + 0 = 18 + 7 * n by omega,
    show code % 5 = s 3 by omega, show code / 5 % 5 = s 2 by omega, show code / 5 / 5 % 5 = s 1 by omega, show code / 5 / 5 / 5 % 5 = s 0 by omega]
  refine u_306_139 ⟨fun _ => ?_, fun h5 => by omega⟩
  have e7 : wr (((16 + 7 * n : Nat) : Int) + 6) = ((22 + 7 * n : Nat) : Int) := by rw [wr_id (by omega) (by omega)]; omega
  rw [e7]
  clear e7
  refine ⟨by omega, ?_⟩
  rintro V3 rfl
  rw [nn_toNat, r6_up]
  obtain ⟨q, hq⟩ : ∃ q, q = rup (rup (rup (rup (rup (rup (rup p (16 + 7 * n) w) (17 + 7 * n) dd) (21 + 7 * n) (s 3)) (20 + 7 * n) (s 2)) (19 + 7 * n) (s 1)) (18 + 7 * n) (s 0)) (22 + 7 * n) z := ⟨_, rfl⟩
  rw [← hq]
  have hqo : ∀ k, (k < 16 + 7 * n ∨ 22 + 7 * n < k) → q k = p k := fun k hk => by
    rw [hq, rup_n (by omega), rup_n (by omega), rup_n (by omega), rup_n (by omega), rup_n (by omega), rup_n (by omega), rup_n (by omega)]
  have hd : ∀ o, o < 5 → q (66 + 5 * n + o) = 0 ∧ q (66 + 5 * o + n) = 0 := fun o ho => by
    have w1 := hW.dor (r := n) (o := o) hn5 ho
    have w2 := hW.dor (r := o) (o := n) ho hn5
    rw [hqo _ (by omega), hqo _ (by omega)]
    unfold dO_ at w1 w2
    constructor
    · rcases w1.1 with h9 | h9
      · exact h9
      · have := (w1.2.2 h9).1; omega
    · rcases w2.1 with h9 | h9
      · exact h9
      · have := (w2.2.2 h9).2.1; omega
  have q3 : (mst (r6 V q) a (-1) 0) 406 3 = (n : Int) := by rw [mst_n (by decide), r6_6, hqo 3 (by omega)]; exact hn
  have loop : ∀ (c o : Nat) (i4 : Int), o + c = 5 → RY d 306 187 [vr 405, vi i1, vi w, vi dd, vi i4, vi z, vi ((16 + 7 * n : Nat) : Int), vi (o : Int)] [] (mst (r6 V q) a (-1) 0) D Q := by
    intro c
    induction c with
    | zero =>
      intro o i4 ho
      refine u_306_187 ⟨fun _ V1 hV1 => ?_, fun h5 => by omega⟩
      have e8 : wr ((n : Int) + 1) = p 3 + 1 := by rw [wr_id (by omega) (by omega), hn]
      rw [q3, e8, r6_up] at hV1
      rw [hV1, hq]
      unfold rmR at h
      rw [hnn] at h
      exact h
    | succ c ih =>
      intro o i4 ho
      have e1 : wr ((wr ((66 : Int) + (wr ((5 : Int) * (n : Int))))) + (o : Int)) = ((66 + 5 * n + o : Nat) : Int) := by rw [wr_id (x := (5 : Int) * (n : Int)) (by omega) (by omega), wr_id (x := (66 : Int) + 5 * (n : Int)) (by omega) (by omega), wr_id (by omega) (by omega)]; omega
      have e2 : wr ((wr ((66 : Int) + (wr ((5 : Int) * (o : Int))))) + (n : Int)) = ((66 + 5 * o + n : Nat) : Int) := by clear e1; rw [wr_id (x := (5 : Int) * (o : Int)) (by omega) (by omega), wr_id (x := (66 : Int) + 5 * (o : Int)) (by omega) (by omega), wr_id (by omega) (by omega)]; omega
      have e4 : wr ((o : Int) + 1) = ((o + 1 : Nat) : Int) := by clear e1 e2; rw [wr_id (by omega) (by omega)]; omega
      refine u_306_187 ⟨fun h5 => by clear e1 e2 e4; omega, fun _ => ?_⟩
      rw [q3, e1, e2, e4]
      clear e1 e2 e4
      refine ⟨by omega, ?_⟩
      rintro V2 rfl
      refine ⟨by omega, ?_⟩
      rintro V3 rfl
      rw [nn_toNat, nn_toNat, r6_up, rup_id (hd o (by omega)).1, r6_up, rup_id (hd o (by omega)).2]
      exact ih (o + 1) i4 (by omega)
  exact loop 5 0 _ rfl
end MHOUSE
