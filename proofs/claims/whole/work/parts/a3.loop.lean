/-! ===== THE LAW'S LOOP (printed by wip/whole/gen_loop.py) ===== -/
section LOOPZ
variable {S : Nat → Int} {L d : Nat} {Q : xRes → xF → yD → Prop}
set_option maxRecDepth 20000 in
theorem loop (hS : ∀ j, r32 (S j)) (hL : L ≤ 384) (hd : 30 ≤ d) (hQ : ∀ V D k b n ls, k ≤ 64 → Inv S L V D k b n ls → Q (.inl (some (vi 1))) V D) : ∀ (f k : Nat) (V : xF) (D : yD) (b : Nat → Int) (n : Int) (ls : List Ln) (v5 v6 : xV), k + f = 65 → 6 * k ≤ L → Inv S L V D k b n ls → RY d 381 23 [vr 1, vr 70, vr 405, vr 420, vi ((6 * k : Nat) : Int), v5, v6] [] V D Q := by
  intro f
  induction f with
  | zero => intro k V D b n ls v5 v6 hf hk h; omega
  | succ f ih =>
    intro k V D b n ls v5 v6 hf hk h
    have ek := h.k1
    have e2 : (((yK D.2.2.1 1).2 : Nat) : Int) = (L : Int) := by rw [kk_1, ek]
    have eL : wr ((L : Int) - 6) = (L : Int) - 6 := wr_id (by omega) (by omega)
    have h32 : ∀ j, r32 (V 1 j) := fun j => by rw [h.v1]; exact hS j
    obtain ⟨i4, hi4⟩ : ∃ i4 : Int, i4 = ((6 * k : Nat) : Int) := ⟨_, rfl⟩
    rw [← hi4]
    refine u_381_23 ⟨kk25 ek, fun _ => hQ V D k b n ls (by omega) h, fun hle => ?_⟩
    rw [e2, eL] at hle
    clear eL
    have hB : BB i4 L := by
      intro j h1 h5
      rw [wr_id (by omega) (by omega)]
      omega
    have hN : NX S L d k Q i4 := by
      intro V' D' b' n' ls' v5' v6' h'
      have e6 : wr (i4 + 6) = ((6 * (k + 1) : Nat) : Int) := by rw [wr_id (by omega) (by omega)]; omega
      rw [e6]
      clear e6
      exact ih (k + 1) V' D' b' n' ls' v5' v6' (by omega) (by omega) h'
    refine ⟨kk21 ek, ⟨by omega, by omega⟩, ⟨fun _ => ⟨kk21 ek, kkB ek hB 1 (by decide) (by decide), kk21 ek, kkB ek hB 2 (by decide) (by decide), kk21 ek, kkB ek hB 3 (by decide) (by decide), kk21 ek, kkB ek hB 4 (by decide) (by decide), kk21 ek, kkB ek hB 5 (by decide) (by decide), op_0 h hB hN⟩,
      fun _ => ⟨kk21 ek, kkB ek hB 1 (by decide) (by decide), op_1 h hB hN⟩,
      fun _ => op_2 h hN,
      fun _ => op_3 h hd hN,
      fun _ => op_4 h hN,
      fun _ => ⟨kk21 ek, kkB ek hB 1 (by decide) (by decide), kk21 ek, kkB ek hB 2 (by decide) (by decide), op_5 h hB h32 hd hN⟩,
      fun _ => ⟨kk21 ek, kkB ek hB 1 (by decide) (by decide), kk21 ek, kkB ek hB 2 (by decide) (by decide), op_6 h hB h32 hd hN⟩,
      fun _ => ⟨kk21 ek, kkB ek hB 1 (by decide) (by decide), kk21 ek, kkB ek hB 2 (by decide) (by decide), op_7 h hB h32 hd hN⟩,
      fun _ => ⟨kk21 ek, kkB ek hB 1 (by decide) (by decide), kk21 ek, kkB ek hB 2 (by decide) (by decide), op_8 h hB h32 hd hN⟩,
      fun _ => ⟨kk21 ek, kkB ek hB 1 (by decide) (by decide), kk21 ek, kkB ek hB 2 (by decide) (by decide), op_9 h hB h32 hd hN⟩,
      fun _ => ⟨kk21 ek, kkB ek hB 1 (by decide) (by decide), kk21 ek, kkB ek hB 2 (by decide) (by decide), kk21 ek, kkB ek hB 3 (by decide) (by decide), kk21 ek, kkB ek hB 4 (by decide) (by decide), kk21 ek, kkB ek hB 5 (by decide) (by decide), fun hz => op_10_0 h hB h32 hd hN hz, fun hz => op_10_1 h hB h32 hd hN hz⟩,
      fun _ => ⟨kk21 ek, kkB ek hB 1 (by decide) (by decide), op_11 h hB h32 hd hN⟩,
      fun _ => ⟨kk21 ek, kkB ek hB 1 (by decide) (by decide), op_12 h hB h32 hd hN⟩,
      fun _ => ⟨kk21 ek, kkB ek hB 1 (by decide) (by decide), op_13 h hB h32 hd hN⟩,
      fun _ => op_14 h hB h32 hd hN,
      fun _ => ⟨kk21 ek, kkB ek hB 1 (by decide) (by decide), kk21 ek, kkB ek hB 2 (by decide) (by decide), kk21 ek, kkB ek hB 3 (by decide) (by decide), op_15 h hB h32 hd hN⟩,
      fun _ => ⟨kk21 ek, kkB ek hB 1 (by decide) (by decide), kk21 ek, kkB ek hB 2 (by decide) (by decide), kk21 ek, kkB ek hB 3 (by decide) (by decide), fun hz => op_16_0 h hB h32 hd hN hz, fun hz => op_16_1 h hB h32 hd hN hz⟩,
      fun _ => ⟨kk21 ek, kkB ek hB 1 (by decide) (by decide), kk21 ek, kkB ek hB 2 (by decide) (by decide), op_17 h hB h32 hd hN⟩,
      fun _ => ⟨kk21 ek, kkB ek hB 1 (by decide) (by decide), kk21 ek, kkB ek hB 2 (by decide) (by decide), op_18 h hB h32 hd hN⟩,
      fun _ => ⟨kk21 ek, kkB ek hB 1 (by decide) (by decide), kk21 ek, kkB ek hB 2 (by decide) (by decide), kk21 ek, kkB ek hB 3 (by decide) (by decide), op_19 h hB h32 hd hN⟩,
      fun _ => ⟨kk21 ek, kkB ek hB 1 (by decide) (by decide), kk21 ek, kkB ek hB 2 (by decide) (by decide), kk21 ek, kkB ek hB 3 (by decide) (by decide), op_20 h hB h32 hd hN⟩,
      fun _ => ⟨kk21 ek, kkB ek hB 1 (by decide) (by decide), kk21 ek, kkB ek hB 2 (by decide) (by decide), kk21 ek, kkB ek hB 3 (by decide) (by decide), op_21 h hB h32 hd hN⟩,
      fun _ => ⟨kk21 ek, kkB ek hB 1 (by decide) (by decide), kk21 ek, kkB ek hB 2 (by decide) (by decide), kk21 ek, kkB ek hB 3 (by decide) (by decide), kk21 ek, kkB ek hB 4 (by decide) (by decide), op_22 h hB h32 hd hN⟩,
      fun _ => ⟨kk21 ek, kkB ek hB 1 (by decide) (by decide), kk21 ek, kkB ek hB 2 (by decide) (by decide), fun hz => op_23_0 h hB h32 hd hN hz, fun hz => op_23_1 h hB h32 hd hN hz⟩,
      fun _ => ⟨kk21 ek, kkB ek hB 1 (by decide) (by decide), op_24 h hB h32 hd hN⟩,
      fun _ => op_25 h hB h32 hd hN,
      fun _ => ⟨kk21 ek, kkB ek hB 1 (by decide) (by decide), kk21 ek, kkB ek hB 2 (by decide) (by decide), op_26 h hB h32 hd hN⟩,
      fun _ => op_27 h hB h32 hd hN,
      fun _ => ⟨kk21 ek, kkB ek hB 1 (by decide) (by decide), fun hz => op_28_0 h hB h32 hd hN hz, fun hz => op_28_1 h hB h32 hd hN hz⟩,
      fun _ => ⟨kk21 ek, kkB ek hB 1 (by decide) (by decide), kk21 ek, kkB ek hB 2 (by decide) (by decide), kk21 ek, kkB ek hB 3 (by decide) (by decide), fun hz => op_29_0 h hB h32 hd hN hz, fun hz => op_29_1 h hB h32 hd hN hz⟩,
      fun _ => ⟨kk21 ek, kkB ek hB 1 (by decide) (by decide), kk21 ek, kkB ek hB 2 (by decide) (by decide), op_30 h hB h32 hd hN⟩,
      fun _ => ⟨kk21 ek, kkB ek hB 1 (by decide) (by decide), op_31 h hB h32 hd hN⟩,
      fun _ => op_32 h hB h32 hd hN,
      fun _ => ⟨kk21 ek, kkB ek hB 1 (by decide) (by decide), op_33 h hB h32 hd hN⟩,
      fun _ => op_34 h hB h32 hd hN,
      fun _ => ⟨kk21 ek, kkB ek hB 1 (by decide) (by decide), kk21 ek, kkB ek hB 2 (by decide) (by decide), op_35 h hB h32 hd hN⟩,
      fun _ => ⟨kk21 ek, kkB ek hB 1 (by decide) (by decide), kk21 ek, kkB ek hB 2 (by decide) (by decide), kk21 ek, kkB ek hB 3 (by decide) (by decide), op_36 h hB h32 hd hN⟩,
      fun _ => ⟨kk21 ek, kkB ek hB 1 (by decide) (by decide), kk21 ek, kkB ek hB 2 (by decide) (by decide), op_37 h hB h32 hd hN⟩,
      fun _ => op_38 h hB h32 hd hN,
      fun _ => op_39 h hB h32 hd hN,
      fun _ => op_40 h hB h32 hd hN,
      fun _ => op_41 h hB h32 hd hN,
      fun _ => op_42 h hB h32 hd hN,
      fun _ => ⟨kk21 ek, kkB ek hB 1 (by decide) (by decide), op_43 h hB h32 hd hN⟩,
      fun _ => ⟨kk21 ek, kkB ek hB 1 (by decide) (by decide), kk21 ek, kkB ek hB 2 (by decide) (by decide), op_44 h hB h32 hd hN⟩,
      fun _ => ⟨kk21 ek, kkB ek hB 1 (by decide) (by decide), kk21 ek, kkB ek hB 2 (by decide) (by decide), fun hz => op_45_0 h hB h32 hd hN hz, fun hz => op_45_1 h hB h32 hd hN hz⟩,
      fun _ => ⟨kk21 ek, kkB ek hB 1 (by decide) (by decide), kk21 ek, kkB ek hB 2 (by decide) (by decide), fun hz => op_46_0 h hB h32 hd hN hz, fun hz => op_46_1 h hB h32 hd hN hz⟩,
      fun _ => ⟨kk21 ek, kkB ek hB 1 (by decide) (by decide), kk21 ek, kkB ek hB 2 (by decide) (by decide), fun hz => op_47_0 h hB h32 hd hN hz, fun hz => op_47_1 h hB h32 hd hN hz⟩,
      fun _ => ⟨kk21 ek, kkB ek hB 1 (by decide) (by decide), kk21 ek, kkB ek hB 2 (by decide) (by decide), op_48 h hB h32 hd hN⟩,
      fun _ => ⟨kk21 ek, kkB ek hB 1 (by decide) (by decide), op_49 h hB h32 hN⟩,
      fun _ => op_50 h hN,
      fun _ => op_51 h hN,
      fun _ => op_52 h hN,
      fun _ => ⟨kk21 ek, kkB ek hB 1 (by decide) (by decide), op_53 h hB hN⟩, trivial⟩, fun _ => hN _ _ _ _ _ _ _ (h.cor Cor.rf CorD.rf)⟩
end LOOPZ
