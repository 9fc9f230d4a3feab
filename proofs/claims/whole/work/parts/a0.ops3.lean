/-! ===== THE LOOP'S CALLS 3 (printed by wip/whole/gen_ops.py) ===== -/
section LOOPO2
variable {S : Nat → Int} {L d : Nat} {V : xF} {D : yD} {k : Nat} {b : Nat → Int} {n i4 : Int} {ls : List Ln} {Q : xRes → xF → yD → Prop} {v5 v6 : xV}
theorem op_36 (h : Inv S L V D k b n ls) (hB : BB i4 L) (h32 : ∀ j, r32 (V 1 j)) (hd : 30 ≤ d) (hN : NX S L d k Q i4) : RY d 75 0 [vr 70, vi (V 1 ((wr (i4 + 1)).toNat)), vi (V 1 ((wr (i4 + 2)).toNat)), vi (V 1 ((wr (i4 + 3)).toNat)), vr 420, vr 0] [] V D (yback d 381 2507 [vr 1, vr 70, vr 405, vr 420, vi i4, v5, v6] [] Q) := by
  obtain ⟨A, hA⟩ : ∃ A, A = (aRests (V 406) ls (V 1 ((wr (i4 + 1)).toNat)) (V 1 ((wr (i4 + 2)).toNat)) (V 1 ((wr (i4 + 3)).toNat))) := ⟨_, rfl⟩
  have hE : eIn [2, 0] A := by rw [hA]; exact e_rests
  have mid : ∀ (V1 : xF) (D1 : yD) (c : Int), Cor V V1 → CorD D D1 → c = mCd 2 A → (c = 0 → D1.1 420 0 = mVal A) → RY d 381 2507 [vr 1, vr 70, vr 405, vr 420, vi i4, v5, v6] [vi c] V1 D1 Q := by
    intro V1 D1 c hC hD hc hv
    obtain ⟨e406, e1, ek, hws, hbv⟩ := h.endR hC hD
    refine u_381_2507 ⟨kk21 ek, kkB ek hB 1 (by decide) (by decide), kk21 ek, kkB ek hB 2 (by decide) (by decide), kk21 ek, kkB ek hB 3 (by decide) (by decide), ?_⟩
    rw [e1]
    refine ma_rests (hM := ⟨e406, h.wf, h.law.2.1, hws⟩) (hB := hbv) (hd := hd) ?_
    intro V2 h0 hC2
    rw [← hA] at h0
    rw [← hA]
    show RY d 381 2531 [vr 1, vr 70, vr 405, vr 420, vi i4, vi c, v6] [vi (mVal A)] V2 D1 Q
    have hf := h.cor (hC.tr hC2) hD
    exact u_381_2531 ⟨fun _ => ⟨fun _ => hN _ _ _ _ _ _ _ hf, fun hc0 => ⟨fun _ => hN _ _ _ _ _ _ _ hf, fun hx => absurd (by rw [hv hc0]; exact xcmp_self _) hx⟩⟩, fun hne => absurd (h0.trans hc.symm) hne⟩
  refine u_75_0 (ca_rests (hS := h.st) (hB := h.v2) (hW := h.wf) (hO := h.lo) ?_)
  intro V1 D1 hC hD
  rw [← hA]
  clear hA
  cases A with
  | inl q =>
    show RY d 75 10 _ [vi q, vi 0, vr 420] V1 D1 _
    refine u_75_10 ⟨⟨by decide, by decide⟩, fun D2 hD2 => ?_⟩
    exact mid V1 D2 0 hC (by rw [hD2]; exact hD) rfl (fun _ => by rw [hD2]; show up2 D1.1 420 0 (q) 420 0 = q; exact up2_at _ _ _ _)
  | inr E =>
    have hEE := hE E rfl
    obtain rfl | rfl : E = 2 ∨ E = 0 := by simpa using hEE
    · show RY d 75 15 _ [vr 0] V1 D1 _
      exact u_75_15 (mid V1 D1 1 hC hD rfl (fun hx => absurd hx (by decide)))
    · show RY d 75 19 _ [vr 0] V1 D1 _
      exact u_75_19 (mid V1 D1 2 hC hD rfl (fun hx => absurd hx (by decide)))
theorem op_37 (h : Inv S L V D k b n ls) (hB : BB i4 L) (h32 : ∀ j, r32 (V 1 j)) (hd : 30 ≤ d) (hN : NX S L d k Q i4) : RY d 77 0 [vr 70, vi (V 1 ((wr (i4 + 1)).toNat)), vi (V 1 ((wr (i4 + 2)).toNat)), vr 420, vr 0] [] V D (yback d 381 2581 [vr 1, vr 70, vr 405, vr 420, vi i4, v5, v6] [] Q) := by
  obtain ⟨A, hA⟩ : ∃ A, A = (aOdds (V 406) (V 1 ((wr (i4 + 1)).toNat)) (V 1 ((wr (i4 + 2)).toNat))) := ⟨_, rfl⟩
  have hE : eIn [0] A := by rw [hA]; exact e_odds
  have mid : ∀ (V1 : xF) (D1 : yD) (c : Int), Cor V V1 → CorD D D1 → c = mCd 0 A → (c = 0 → D1.1 420 0 = mVal A) → RY d 381 2581 [vr 1, vr 70, vr 405, vr 420, vi i4, v5, v6] [vi c] V1 D1 Q := by
    intro V1 D1 c hC hD hc hv
    obtain ⟨e406, e1, ek, hws, hbv⟩ := h.endR hC hD
    refine u_381_2581 ⟨kk21 ek, kkB ek hB 1 (by decide) (by decide), kk21 ek, kkB ek hB 2 (by decide) (by decide), ?_⟩
    rw [e1]
    refine ma_odds (hW := (by rw [e406]; exact h.wf)) ?_
    intro V2 h0 hC2
    rw [e406, ← hA] at h0
    rw [e406, ← hA]
    show RY d 381 2599 [vr 1, vr 70, vr 405, vr 420, vi i4, vi c, v6] [vi (mVal A)] V2 D1 Q
    have hf := h.cor (hC.tr hC2) hD
    exact u_381_2599 ⟨fun _ => ⟨fun _ => hN _ _ _ _ _ _ _ hf, fun hc0 => ⟨fun _ => hN _ _ _ _ _ _ _ hf, fun hx => absurd (by rw [hv hc0]; exact xcmp_self _) hx⟩⟩, fun hne => absurd (h0.trans hc.symm) hne⟩
  refine u_77_0 (ca_odds (hS := h.st) ?_)
  intro D1 hD
  rw [← hA]
  clear hA
  cases A with
  | inl q =>
    show RY d 77 8 _ [vi q, vi 0, vr 420] V D1 _
    refine u_77_8 ⟨⟨by decide, by decide⟩, fun D2 hD2 => ?_⟩
    exact mid V D2 0 Cor.rf (by rw [hD2]; exact hD) rfl (fun _ => by rw [hD2]; show up2 D1.1 420 0 (q) 420 0 = q; exact up2_at _ _ _ _)
  | inr E =>
    have hEE := hE E rfl
    obtain rfl : E = 0 := by simpa using hEE
    show RY d 77 13 _ [vr 0] V D1 _
    exact u_77_13 (mid V D1 1 Cor.rf hD rfl (fun hx => absurd hx (by decide)))
theorem op_38 (h : Inv S L V D k b n ls) (hB : BB i4 L) (h32 : ∀ j, r32 (V 1 j)) (hd : 30 ≤ d) (hN : NX S L d k Q i4) : RY d 79 0 [vr 70, vr 0, vr 0] [] V D (yback d 381 2636 [vr 1, vr 70, vr 405, vr 420, vi i4, v5, v6] [] Q) := by
  refine ca_still (hS := h.st) (hB := h.v2) (hW := h.wf) ?_
  intro V1 hC
  obtain ⟨e406, e1, ek, hws, hbv⟩ := h.endR hC (CorD.rf : CorD D D)
  show RY d 381 2636 [vr 1, vr 70, vr 405, vr 420, vi i4, v5, v6] [vi (stillF (V 406))] V1 D Q
  refine u_381_2636 ?_
  refine ma_still (hW := (by rw [e406]; exact h.wf)) ?_
  intro V2 h0 hC2
  show RY d 381 2640 [vr 1, vr 70, vr 405, vr 420, vi i4, v5, v6] [vi _, vi (stillF (V 406))] V2 D Q
  exact u_381_2640 ⟨fun _ => hN _ _ _ _ _ _ _ (h.cor (Cor.tr hC hC2) CorD.rf), fun hne => absurd (by first | rfl | rw [e406]) hne⟩
theorem op_39 (h : Inv S L V D k b n ls) (hB : BB i4 L) (h32 : ∀ j, r32 (V 1 j)) (hd : 30 ≤ d) (hN : NX S L d k Q i4) : RY d 81 0 [vr 70] [] V D (yback d 381 2649 [vr 1, vr 70, vr 405, vr 420, vi i4, v5, v6] [] Q) := by
  refine ca_empty (hS := h.st) (hW := h.wf) ?_
  obtain ⟨e406, e1, ek, hws, hbv⟩ := h.endR (Cor.rf : Cor V V) (CorD.rf : CorD D D)
  show RY d 381 2649 [vr 1, vr 70, vr 405, vr 420, vi i4, v5, v6] [vi (emptyF (V 406))] V D Q
  refine u_381_2649 ?_
  refine ma_empty (hW := (by rw [e406]; exact h.wf)) ?_
  intro V2 h0 hC2
  show RY d 381 2653 [vr 1, vr 70, vr 405, vr 420, vi i4, v5, v6] [vi _, vi (emptyF (V 406))] V2 D Q
  exact u_381_2653 ⟨fun _ => hN _ _ _ _ _ _ _ (h.cor (Cor.tr (Cor.rf : Cor V V) hC2) CorD.rf), fun hne => absurd (by first | rfl | rw [e406]) hne⟩
theorem op_40 (h : Inv S L V D k b n ls) (hB : BB i4 L) (h32 : ∀ j, r32 (V 1 j)) (hd : 30 ≤ d) (hN : NX S L d k Q i4) : RY d 83 0 [vr 70, vr 0, vr 0] [] V D (yback d 381 2662 [vr 1, vr 70, vr 405, vr 420, vi i4, v5, v6] [] Q) := by
  refine ca_homeless (hS := h.st) (hW := h.wf) ?_
  obtain ⟨e406, e1, ek, hws, hbv⟩ := h.endR (Cor.rf : Cor V V) (CorD.rf : CorD D D)
  show RY d 381 2662 [vr 1, vr 70, vr 405, vr 420, vi i4, v5, v6] [vi (homeF (V 406))] V D Q
  refine u_381_2662 ?_
  refine ma_homeless (hW := (by rw [e406]; exact h.wf)) ?_
  intro V2 h0 hC2
  show RY d 381 2666 [vr 1, vr 70, vr 405, vr 420, vi i4, v5, v6] [vi _, vi (homeF (V 406))] V2 D Q
  exact u_381_2666 ⟨fun _ => hN _ _ _ _ _ _ _ (h.cor (Cor.tr (Cor.rf : Cor V V) hC2) CorD.rf), fun hne => absurd (by first | rfl | rw [e406]) hne⟩
theorem op_41 (h : Inv S L V D k b n ls) (hB : BB i4 L) (h32 : ∀ j, r32 (V 1 j)) (hd : 30 ≤ d) (hN : NX S L d k Q i4) : RY d 85 0 [vr 70, vr 0, vr 0, vr 0, vr 0] [] V D (yback d 381 2675 [vr 1, vr 70, vr 405, vr 420, vi i4, v5, v6] [] Q) := by
  refine ca_largest (hS := h.st) (hW := h.wf) ?_
  obtain ⟨e406, e1, ek, hws, hbv⟩ := h.endR (Cor.rf : Cor V V) (CorD.rf : CorD D D)
  show RY d 381 2675 [vr 1, vr 70, vr 405, vr 420, vi i4, v5, v6] [vi (larF (V 406))] V D Q
  refine u_381_2675 ?_
  refine ma_largest (hW := (by rw [e406]; exact h.wf)) ?_
  intro V2 h0 hC2
  show RY d 381 2679 [vr 1, vr 70, vr 405, vr 420, vi i4, v5, v6] [vi _, vi (larF (V 406))] V2 D Q
  exact u_381_2679 ⟨fun _ => hN _ _ _ _ _ _ _ (h.cor (Cor.tr (Cor.rf : Cor V V) hC2) CorD.rf), fun hne => absurd (by first | rfl | rw [e406]) hne⟩
theorem op_42 (h : Inv S L V D k b n ls) (hB : BB i4 L) (h32 : ∀ j, r32 (V 1 j)) (hd : 30 ≤ d) (hN : NX S L d k Q i4) : RY d 87 0 [vr 70, vr 0, vr 0, vr 0] [] V D (yback d 381 2688 [vr 1, vr 70, vr 405, vr 420, vi i4, v5, v6] [] Q) := by
  refine ca_alike (hS := h.st) (hW := h.wf) ?_
  obtain ⟨e406, e1, ek, hws, hbv⟩ := h.endR (Cor.rf : Cor V V) (CorD.rf : CorD D D)
  show RY d 381 2688 [vr 1, vr 70, vr 405, vr 420, vi i4, v5, v6] [vi (alikeF (V 406))] V D Q
  refine u_381_2688 ?_
  refine ma_alike (hW := (by rw [e406]; exact h.wf)) ?_
  intro V2 h0 hC2
  show RY d 381 2692 [vr 1, vr 70, vr 405, vr 420, vi i4, v5, v6] [vi _, vi (alikeF (V 406))] V2 D Q
  exact u_381_2692 ⟨fun _ => hN _ _ _ _ _ _ _ (h.cor (Cor.tr (Cor.rf : Cor V V) hC2) CorD.rf), fun hne => absurd (by first | rfl | rw [e406]) hne⟩
theorem op_43 (h : Inv S L V D k b n ls) (hB : BB i4 L) (h32 : ∀ j, r32 (V 1 j)) (hd : 30 ≤ d) (hN : NX S L d k Q i4) : RY d 89 0 [vr 70, vi (V 1 ((wr (i4 + 1)).toNat)), vr 420, vr 0] [] V D (yback d 381 2708 [vr 1, vr 70, vr 405, vr 420, vi i4, v5, v6] [] Q) := by
  obtain ⟨A, hA⟩ : ∃ A, A = (aSort (V 406) (V 1 ((wr (i4 + 1)).toNat))) := ⟨_, rfl⟩
  have hE : eIn [2] A := by rw [hA]; exact e_sort
  have mid : ∀ (V1 : xF) (D1 : yD) (c : Int), Cor V V1 → CorD D D1 → c = mCd 2 A → (c = 0 → D1.1 420 0 = mVal A) → RY d 381 2708 [vr 1, vr 70, vr 405, vr 420, vi i4, v5, v6] [vi c] V1 D1 Q := by
    intro V1 D1 c hC hD hc hv
    obtain ⟨e406, e1, ek, hws, hbv⟩ := h.endR hC hD
    refine u_381_2708 ⟨kk21 ek, kkB ek hB 1 (by decide) (by decide), ?_⟩
    rw [e1]
    refine ma_sort (hW := (by rw [e406]; exact h.wf)) ?_
    intro V2 h0 hC2
    rw [e406, ← hA] at h0
    rw [e406, ← hA]
    show RY d 381 2720 [vr 1, vr 70, vr 405, vr 420, vi i4, vi c, v6] [vi (mVal A)] V2 D1 Q
    have hf := h.cor (hC.tr hC2) hD
    exact u_381_2720 ⟨fun _ => ⟨fun _ => hN _ _ _ _ _ _ _ hf, fun hc0 => ⟨fun _ => hN _ _ _ _ _ _ _ hf, fun hx => absurd (by rw [hv hc0]; exact xcmp_self _) hx⟩⟩, fun hne => absurd (h0.trans hc.symm) hne⟩
  refine u_89_0 (ca_sort (hS := h.st) (hW := h.wf) ?_)
  intro D1 hD
  rw [← hA]
  clear hA
  cases A with
  | inl q =>
    show RY d 89 7 _ [vi q, vi 0, vr 420] V D1 _
    refine u_89_7 ⟨⟨by decide, by decide⟩, fun D2 hD2 => ?_⟩
    exact mid V D2 0 Cor.rf (by rw [hD2]; exact hD) rfl (fun _ => by rw [hD2]; show up2 D1.1 420 0 (q) 420 0 = q; exact up2_at _ _ _ _)
  | inr E =>
    have hEE := hE E rfl
    obtain rfl : E = 2 := by simpa using hEE
    show RY d 89 12 _ [vr 0] V D1 _
    exact u_89_12 (mid V D1 1 Cor.rf hD rfl (fun hx => absurd hx (by decide)))
theorem op_44 (h : Inv S L V D k b n ls) (hB : BB i4 L) (h32 : ∀ j, r32 (V 1 j)) (hd : 30 ≤ d) (hN : NX S L d k Q i4) : RY d 91 0 [vr 70, vi (V 1 ((wr (i4 + 1)).toNat)), vi (V 1 ((wr (i4 + 2)).toNat)), vr 420, vr 0] [] V D (yback d 381 2770 [vr 1, vr 70, vr 405, vr 420, vi i4, v5, v6] [] Q) := by
  obtain ⟨A, hA⟩ : ∃ A, A = (aAhead (V 406) ls (V 1 ((wr (i4 + 1)).toNat)) (V 1 ((wr (i4 + 2)).toNat))) := ⟨_, rfl⟩
  have hE : eIn [2, 0] A := by rw [hA]; exact e_ahead
  have mid : ∀ (V1 : xF) (D1 : yD) (c : Int), Cor V V1 → CorD D D1 → c = mCd 2 A → (c = 0 → D1.1 420 0 = mVal A) → RY d 381 2770 [vr 1, vr 70, vr 405, vr 420, vi i4, v5, v6] [vi c] V1 D1 Q := by
    intro V1 D1 c hC hD hc hv
    obtain ⟨e406, e1, ek, hws, hbv⟩ := h.endR hC hD
    refine u_381_2770 ⟨kk21 ek, kkB ek hB 1 (by decide) (by decide), kk21 ek, kkB ek hB 2 (by decide) (by decide), ?_⟩
    rw [e1]
    refine ma_ahead (hM := ⟨e406, h.wf, h.law.2.1, hws⟩) (hB := hbv) (hd := hd) ?_
    intro V2 h0 hC2
    rw [← hA] at h0
    rw [← hA]
    show RY d 381 2788 [vr 1, vr 70, vr 405, vr 420, vi i4, vi c, v6] [vi (mVal A)] V2 D1 Q
    have hf := h.cor (hC.tr hC2) hD
    exact u_381_2788 ⟨fun _ => ⟨fun _ => hN _ _ _ _ _ _ _ hf, fun hc0 => ⟨fun _ => hN _ _ _ _ _ _ _ hf, fun hx => absurd (by rw [hv hc0]; exact xcmp_self _) hx⟩⟩, fun hne => absurd (h0.trans hc.symm) hne⟩
  refine u_91_0 (ca_ahead (hS := h.st) (hB := h.v2) (hW := h.wf) (hO := h.lo) ?_)
  intro V1 D1 hC hD
  rw [← hA]
  clear hA
  cases A with
  | inl q =>
    show RY d 91 8 _ [vi q, vi 0, vr 420] V1 D1 _
    refine u_91_8 ⟨⟨by decide, by decide⟩, fun D2 hD2 => ?_⟩
    exact mid V1 D2 0 hC (by rw [hD2]; exact hD) rfl (fun _ => by rw [hD2]; show up2 D1.1 420 0 (q) 420 0 = q; exact up2_at _ _ _ _)
  | inr E =>
    have hEE := hE E rfl
    obtain rfl | rfl : E = 2 ∨ E = 0 := by simpa using hEE
    · show RY d 91 13 _ [vr 0] V1 D1 _
      exact u_91_13 (mid V1 D1 1 hC hD rfl (fun hx => absurd hx (by decide)))
    · show RY d 91 17 _ [vr 0] V1 D1 _
      exact u_91_17 (mid V1 D1 2 hC hD rfl (fun hx => absurd hx (by decide)))
theorem op_45_0 (h : Inv S L V D k b n ls) (hB : BB i4 L) (h32 : ∀ j, r32 (V 1 j)) (hd : 30 ≤ d) (hN : NX S L d k Q i4) (hz : V 1 ((wr (i4 + 2)).toNat) = 0) : RY d 93 0 [vr 70, vi (V 1 ((wr (i4 + 1)).toNat)), vi 0, vr 420, vr 0] [] V D (yback d 381 2846 [vr 1, vr 70, vr 405, vr 420, vi i4, v5, v6] [] Q) := by
  obtain ⟨A, hA⟩ : ∃ A, A = (aTrial (V 406) ls (V 1 ((wr (i4 + 1)).toNat)) 0) := ⟨_, rfl⟩
  have hE : eIn [0] A := by rw [hA]; exact e_trial
  have mid : ∀ (V1 : xF) (D1 : yD) (c : Int), Cor V V1 → CorD D D1 → c = mCd 0 A → (c = 0 → D1.1 420 0 = mVal A) → RY d 381 2846 [vr 1, vr 70, vr 405, vr 420, vi i4, v5, v6] [vi c] V1 D1 Q := by
    intro V1 D1 c hC hD hc hv
    obtain ⟨e406, e1, ek, hws, hbv⟩ := h.endR hC hD
    refine u_381_2846 ⟨kk21 ek, kkB ek hB 1 (by decide) (by decide), kk21 ek, kkB ek hB 2 (by decide) (by decide), fun _ => ?_, fun hne => absurd hz (by rw [← e1]; exact hne)⟩
    rw [e1]
    refine ma_trial (hM := ⟨e406, h.wf, h.law.2.1, hws⟩) (hB := hbv) (hd := hd) ?_
    intro V2 h0 hC2
    rw [← hA] at h0
    rw [← hA]
    show RY d 381 2872 [vr 1, vr 70, vr 405, vr 420, vi i4, vi c, v6] [vi (mVal A)] V2 D1 Q
    have hf := h.cor (hC.tr hC2) hD
    exact u_381_2872 ⟨fun _ => ⟨fun _ => hN _ _ _ _ _ _ _ hf, fun hc0 => ⟨fun _ => hN _ _ _ _ _ _ _ hf, fun hx => absurd (by rw [hv hc0]; exact xcmp_self _) hx⟩⟩, fun hne => absurd (h0.trans hc.symm) hne⟩
  refine u_93_0 (ca_trial (hS := h.st) (hB := h.v2) (hW := h.wf) (hO := h.lo) ?_)
  intro V1 D1 hC hD
  rw [← hA]
  clear hA
  cases A with
  | inl q =>
    show RY d 93 8 _ [vi q, vi 0, vr 420] V1 D1 _
    refine u_93_8 ⟨⟨by decide, by decide⟩, fun D2 hD2 => ?_⟩
    exact mid V1 D2 0 hC (by rw [hD2]; exact hD) rfl (fun _ => by rw [hD2]; show up2 D1.1 420 0 (q) 420 0 = q; exact up2_at _ _ _ _)
  | inr E =>
    have hEE := hE E rfl
    obtain rfl : E = 0 := by simpa using hEE
    show RY d 93 13 _ [vr 0] V1 D1 _
    exact u_93_13 (mid V1 D1 1 hC hD rfl (fun hx => absurd hx (by decide)))
theorem op_45_1 (h : Inv S L V D k b n ls) (hB : BB i4 L) (h32 : ∀ j, r32 (V 1 j)) (hd : 30 ≤ d) (hN : NX S L d k Q i4) (hz : V 1 ((wr (i4 + 2)).toNat) ≠ 0) : RY d 93 0 [vr 70, vi (V 1 ((wr (i4 + 1)).toNat)), vi 1, vr 420, vr 0] [] V D (yback d 381 2846 [vr 1, vr 70, vr 405, vr 420, vi i4, v5, v6] [] Q) := by
  obtain ⟨A, hA⟩ : ∃ A, A = (aTrial (V 406) ls (V 1 ((wr (i4 + 1)).toNat)) 1) := ⟨_, rfl⟩
  have hE : eIn [0] A := by rw [hA]; exact e_trial
  have mid : ∀ (V1 : xF) (D1 : yD) (c : Int), Cor V V1 → CorD D D1 → c = mCd 0 A → (c = 0 → D1.1 420 0 = mVal A) → RY d 381 2846 [vr 1, vr 70, vr 405, vr 420, vi i4, v5, v6] [vi c] V1 D1 Q := by
    intro V1 D1 c hC hD hc hv
    obtain ⟨e406, e1, ek, hws, hbv⟩ := h.endR hC hD
    refine u_381_2846 ⟨kk21 ek, kkB ek hB 1 (by decide) (by decide), kk21 ek, kkB ek hB 2 (by decide) (by decide), fun heq => absurd (by rw [← e1]; exact heq) hz, fun _ => ?_⟩
    rw [e1]
    refine ma_trial (hM := ⟨e406, h.wf, h.law.2.1, hws⟩) (hB := hbv) (hd := hd) ?_
    intro V2 h0 hC2
    rw [← hA] at h0
    rw [← hA]
    show RY d 381 2872 [vr 1, vr 70, vr 405, vr 420, vi i4, vi c, v6] [vi (mVal A)] V2 D1 Q
    have hf := h.cor (hC.tr hC2) hD
    exact u_381_2872 ⟨fun _ => ⟨fun _ => hN _ _ _ _ _ _ _ hf, fun hc0 => ⟨fun _ => hN _ _ _ _ _ _ _ hf, fun hx => absurd (by rw [hv hc0]; exact xcmp_self _) hx⟩⟩, fun hne => absurd (h0.trans hc.symm) hne⟩
  refine u_93_0 (ca_trial (hS := h.st) (hB := h.v2) (hW := h.wf) (hO := h.lo) ?_)
  intro V1 D1 hC hD
  rw [← hA]
  clear hA
  cases A with
  | inl q =>
    show RY d 93 8 _ [vi q, vi 0, vr 420] V1 D1 _
    refine u_93_8 ⟨⟨by decide, by decide⟩, fun D2 hD2 => ?_⟩
    exact mid V1 D2 0 hC (by rw [hD2]; exact hD) rfl (fun _ => by rw [hD2]; show up2 D1.1 420 0 (q) 420 0 = q; exact up2_at _ _ _ _)
  | inr E =>
    have hEE := hE E rfl
    obtain rfl : E = 0 := by simpa using hEE
    show RY d 93 13 _ [vr 0] V1 D1 _
    exact u_93_13 (mid V1 D1 1 hC hD rfl (fun hx => absurd hx (by decide)))
theorem op_46_0 (h : Inv S L V D k b n ls) (hB : BB i4 L) (h32 : ∀ j, r32 (V 1 j)) (hd : 30 ≤ d) (hN : NX S L d k Q i4) (hz : V 1 ((wr (i4 + 2)).toNat) = 0) : RY d 95 0 [vr 70, vi (V 1 ((wr (i4 + 1)).toNat)), vi 0, vr 420, vr 0] [] V D (yback d 381 2930 [vr 1, vr 70, vr 405, vr 420, vi i4, v5, v6] [] Q) := by
  obtain ⟨A, hA⟩ : ∃ A, A = (aSpan (V 406) ls (V 1 ((wr (i4 + 1)).toNat)) 0) := ⟨_, rfl⟩
  have hE : eIn [0] A := by rw [hA]; exact e_span
  have mid : ∀ (V1 : xF) (D1 : yD) (c : Int), Cor V V1 → CorD D D1 → c = mCd 0 A → (c = 0 → D1.1 420 0 = mVal A) → RY d 381 2930 [vr 1, vr 70, vr 405, vr 420, vi i4, v5, v6] [vi c] V1 D1 Q := by
    intro V1 D1 c hC hD hc hv
    obtain ⟨e406, e1, ek, hws, hbv⟩ := h.endR hC hD
    refine u_381_2930 ⟨kk21 ek, kkB ek hB 1 (by decide) (by decide), kk21 ek, kkB ek hB 2 (by decide) (by decide), fun _ => ?_, fun hne => absurd hz (by rw [← e1]; exact hne)⟩
    rw [e1]
    refine ma_span (hM := ⟨e406, h.wf, h.law.2.1, hws⟩) (hB := hbv) (hd := hd) ?_
    intro V2 h0 hC2
    rw [← hA] at h0
    rw [← hA]
    show RY d 381 2956 [vr 1, vr 70, vr 405, vr 420, vi i4, vi c, v6] [vi (mVal A)] V2 D1 Q
    have hf := h.cor (hC.tr hC2) hD
    exact u_381_2956 ⟨fun _ => ⟨fun _ => hN _ _ _ _ _ _ _ hf, fun hc0 => ⟨fun _ => hN _ _ _ _ _ _ _ hf, fun hx => absurd (by rw [hv hc0]; exact xcmp_self _) hx⟩⟩, fun hne => absurd (h0.trans hc.symm) hne⟩
  refine u_95_0 (ca_span (hS := h.st) (hB := h.v2) (hW := h.wf) (hO := h.lo) ?_)
  intro V1 D1 hC hD
  rw [← hA]
  clear hA
  cases A with
  | inl q =>
    show RY d 95 8 _ [vi q, vi 0, vr 420] V1 D1 _
    refine u_95_8 ⟨⟨by decide, by decide⟩, fun D2 hD2 => ?_⟩
    exact mid V1 D2 0 hC (by rw [hD2]; exact hD) rfl (fun _ => by rw [hD2]; show up2 D1.1 420 0 (q) 420 0 = q; exact up2_at _ _ _ _)
  | inr E =>
    have hEE := hE E rfl
    obtain rfl : E = 0 := by simpa using hEE
    show RY d 95 13 _ [vr 0] V1 D1 _
    exact u_95_13 (mid V1 D1 1 hC hD rfl (fun hx => absurd hx (by decide)))
theorem op_46_1 (h : Inv S L V D k b n ls) (hB : BB i4 L) (h32 : ∀ j, r32 (V 1 j)) (hd : 30 ≤ d) (hN : NX S L d k Q i4) (hz : V 1 ((wr (i4 + 2)).toNat) ≠ 0) : RY d 95 0 [vr 70, vi (V 1 ((wr (i4 + 1)).toNat)), vi 1, vr 420, vr 0] [] V D (yback d 381 2930 [vr 1, vr 70, vr 405, vr 420, vi i4, v5, v6] [] Q) := by
  obtain ⟨A, hA⟩ : ∃ A, A = (aSpan (V 406) ls (V 1 ((wr (i4 + 1)).toNat)) 1) := ⟨_, rfl⟩
  have hE : eIn [0] A := by rw [hA]; exact e_span
  have mid : ∀ (V1 : xF) (D1 : yD) (c : Int), Cor V V1 → CorD D D1 → c = mCd 0 A → (c = 0 → D1.1 420 0 = mVal A) → RY d 381 2930 [vr 1, vr 70, vr 405, vr 420, vi i4, v5, v6] [vi c] V1 D1 Q := by
    intro V1 D1 c hC hD hc hv
    obtain ⟨e406, e1, ek, hws, hbv⟩ := h.endR hC hD
    refine u_381_2930 ⟨kk21 ek, kkB ek hB 1 (by decide) (by decide), kk21 ek, kkB ek hB 2 (by decide) (by decide), fun heq => absurd (by rw [← e1]; exact heq) hz, fun _ => ?_⟩
    rw [e1]
    refine ma_span (hM := ⟨e406, h.wf, h.law.2.1, hws⟩) (hB := hbv) (hd := hd) ?_
    intro V2 h0 hC2
    rw [← hA] at h0
    rw [← hA]
    show RY d 381 2956 [vr 1, vr 70, vr 405, vr 420, vi i4, vi c, v6] [vi (mVal A)] V2 D1 Q
    have hf := h.cor (hC.tr hC2) hD
    exact u_381_2956 ⟨fun _ => ⟨fun _ => hN _ _ _ _ _ _ _ hf, fun hc0 => ⟨fun _ => hN _ _ _ _ _ _ _ hf, fun hx => absurd (by rw [hv hc0]; exact xcmp_self _) hx⟩⟩, fun hne => absurd (h0.trans hc.symm) hne⟩
  refine u_95_0 (ca_span (hS := h.st) (hB := h.v2) (hW := h.wf) (hO := h.lo) ?_)
  intro V1 D1 hC hD
  rw [← hA]
  clear hA
  cases A with
  | inl q =>
    show RY d 95 8 _ [vi q, vi 0, vr 420] V1 D1 _
    refine u_95_8 ⟨⟨by decide, by decide⟩, fun D2 hD2 => ?_⟩
    exact mid V1 D2 0 hC (by rw [hD2]; exact hD) rfl (fun _ => by rw [hD2]; show up2 D1.1 420 0 (q) 420 0 = q; exact up2_at _ _ _ _)
  | inr E =>
    have hEE := hE E rfl
    obtain rfl : E = 0 := by simpa using hEE
    show RY d 95 13 _ [vr 0] V1 D1 _
    exact u_95_13 (mid V1 D1 1 hC hD rfl (fun hx => absurd hx (by decide)))
theorem op_47_0 (h : Inv S L V D k b n ls) (hB : BB i4 L) (h32 : ∀ j, r32 (V 1 j)) (hd : 30 ≤ d) (hN : NX S L d k Q i4) (hz : V 1 ((wr (i4 + 2)).toNat) = 0) : RY d 97 0 [vr 70, vi (V 1 ((wr (i4 + 1)).toNat)), vi 0, vr 420, vr 0] [] V D (yback d 381 3014 [vr 1, vr 70, vr 405, vr 420, vi i4, v5, v6] [] Q) := by
  obtain ⟨A, hA⟩ : ∃ A, A = (aLed (V 406) (V 1 ((wr (i4 + 1)).toNat)) 0) := ⟨_, rfl⟩
  have hE : eIn [2] A := by rw [hA]; exact e_led
  have mid : ∀ (V1 : xF) (D1 : yD) (c : Int), Cor V V1 → CorD D D1 → c = mCd 2 A → (c = 0 → D1.1 420 0 = mVal A) → RY d 381 3014 [vr 1, vr 70, vr 405, vr 420, vi i4, v5, v6] [vi c] V1 D1 Q := by
    intro V1 D1 c hC hD hc hv
    obtain ⟨e406, e1, ek, hws, hbv⟩ := h.endR hC hD
    refine u_381_3014 ⟨kk21 ek, kkB ek hB 1 (by decide) (by decide), kk21 ek, kkB ek hB 2 (by decide) (by decide), fun _ => ?_, fun hne => absurd hz (by rw [← e1]; exact hne)⟩
    rw [e1]
    refine ma_led (hW := (by rw [e406]; exact h.wf)) ?_
    intro V2 h0 hC2
    rw [e406, ← hA] at h0
    rw [e406, ← hA]
    show RY d 381 3040 [vr 1, vr 70, vr 405, vr 420, vi i4, vi c, v6] [vi (mVal A)] V2 D1 Q
    have hf := h.cor (hC.tr hC2) hD
    exact u_381_3040 ⟨fun _ => ⟨fun _ => hN _ _ _ _ _ _ _ hf, fun hc0 => ⟨fun _ => hN _ _ _ _ _ _ _ hf, fun hx => absurd (by rw [hv hc0]; exact xcmp_self _) hx⟩⟩, fun hne => absurd (h0.trans hc.symm) hne⟩
  refine u_97_0 (ca_led (hS := h.st) (hW := h.wf) ?_)
  intro D1 hD
  rw [← hA]
  clear hA
  cases A with
  | inl q =>
    show RY d 97 8 _ [vi q, vi 0, vr 420] V D1 _
    refine u_97_8 ⟨⟨by decide, by decide⟩, fun D2 hD2 => ?_⟩
    exact mid V D2 0 Cor.rf (by rw [hD2]; exact hD) rfl (fun _ => by rw [hD2]; show up2 D1.1 420 0 (q) 420 0 = q; exact up2_at _ _ _ _)
  | inr E =>
    have hEE := hE E rfl
    obtain rfl : E = 2 := by simpa using hEE
    show RY d 97 13 _ [vr 0] V D1 _
    exact u_97_13 (mid V D1 1 Cor.rf hD rfl (fun hx => absurd hx (by decide)))
theorem op_47_1 (h : Inv S L V D k b n ls) (hB : BB i4 L) (h32 : ∀ j, r32 (V 1 j)) (hd : 30 ≤ d) (hN : NX S L d k Q i4) (hz : V 1 ((wr (i4 + 2)).toNat) ≠ 0) : RY d 97 0 [vr 70, vi (V 1 ((wr (i4 + 1)).toNat)), vi 1, vr 420, vr 0] [] V D (yback d 381 3014 [vr 1, vr 70, vr 405, vr 420, vi i4, v5, v6] [] Q) := by
  obtain ⟨A, hA⟩ : ∃ A, A = (aLed (V 406) (V 1 ((wr (i4 + 1)).toNat)) 1) := ⟨_, rfl⟩
  have hE : eIn [2] A := by rw [hA]; exact e_led
  have mid : ∀ (V1 : xF) (D1 : yD) (c : Int), Cor V V1 → CorD D D1 → c = mCd 2 A → (c = 0 → D1.1 420 0 = mVal A) → RY d 381 3014 [vr 1, vr 70, vr 405, vr 420, vi i4, v5, v6] [vi c] V1 D1 Q := by
    intro V1 D1 c hC hD hc hv
    obtain ⟨e406, e1, ek, hws, hbv⟩ := h.endR hC hD
    refine u_381_3014 ⟨kk21 ek, kkB ek hB 1 (by decide) (by decide), kk21 ek, kkB ek hB 2 (by decide) (by decide), fun heq => absurd (by rw [← e1]; exact heq) hz, fun _ => ?_⟩
    rw [e1]
    refine ma_led (hW := (by rw [e406]; exact h.wf)) ?_
    intro V2 h0 hC2
    rw [e406, ← hA] at h0
    rw [e406, ← hA]
    show RY d 381 3040 [vr 1, vr 70, vr 405, vr 420, vi i4, vi c, v6] [vi (mVal A)] V2 D1 Q
    have hf := h.cor (hC.tr hC2) hD
    exact u_381_3040 ⟨fun _ => ⟨fun _ => hN _ _ _ _ _ _ _ hf, fun hc0 => ⟨fun _ => hN _ _ _ _ _ _ _ hf, fun hx => absurd (by rw [hv hc0]; exact xcmp_self _) hx⟩⟩, fun hne => absurd (h0.trans hc.symm) hne⟩
  refine u_97_0 (ca_led (hS := h.st) (hW := h.wf) ?_)
  intro D1 hD
  rw [← hA]
  clear hA
  cases A with
  | inl q =>
    show RY d 97 8 _ [vi q, vi 0, vr 420] V D1 _
    refine u_97_8 ⟨⟨by decide, by decide⟩, fun D2 hD2 => ?_⟩
    exact mid V D2 0 Cor.rf (by rw [hD2]; exact hD) rfl (fun _ => by rw [hD2]; show up2 D1.1 420 0 (q) 420 0 = q; exact up2_at _ _ _ _)
  | inr E =>
    have hEE := hE E rfl
    obtain rfl : E = 2 := by simpa using hEE
    show RY d 97 13 _ [vr 0] V D1 _
    exact u_97_13 (mid V D1 1 Cor.rf hD rfl (fun hx => absurd hx (by decide)))
theorem op_48 (h : Inv S L V D k b n ls) (hB : BB i4 L) (h32 : ∀ j, r32 (V 1 j)) (hd : 30 ≤ d) (hN : NX S L d k Q i4) : RY d 99 0 [vr 70, vi (V 1 ((wr (i4 + 1)).toNat)), vi (V 1 ((wr (i4 + 2)).toNat)), vr 420, vr 0] [] V D (yback d 381 3090 [vr 1, vr 70, vr 405, vr 420, vi i4, v5, v6] [] Q) := by
  obtain ⟨A, hA⟩ : ∃ A, A = (aLog (V 406) (V 1 ((wr (i4 + 1)).toNat)) (V 1 ((wr (i4 + 2)).toNat))) := ⟨_, rfl⟩
  have hE : eIn [4] A := by rw [hA]; exact e_log
  have mid : ∀ (V1 : xF) (D1 : yD) (c : Int), Cor V V1 → CorD D D1 → c = mCd 4 A → (c = 0 → D1.1 420 0 = mVal A) → RY d 381 3090 [vr 1, vr 70, vr 405, vr 420, vi i4, v5, v6] [vi c] V1 D1 Q := by
    intro V1 D1 c hC hD hc hv
    obtain ⟨e406, e1, ek, hws, hbv⟩ := h.endR hC hD
    refine u_381_3090 ⟨kk21 ek, kkB ek hB 1 (by decide) (by decide), kk21 ek, kkB ek hB 2 (by decide) (by decide), ?_⟩
    rw [e1]
    refine ma_log (hW := (by rw [e406]; exact h.wf)) ?_
    intro V2 h0 hC2
    rw [e406, ← hA] at h0
    rw [e406, ← hA]
    show RY d 381 3108 [vr 1, vr 70, vr 405, vr 420, vi i4, vi c, v6] [vi (mVal A)] V2 D1 Q
    have hf := h.cor (hC.tr hC2) hD
    exact u_381_3108 ⟨fun _ => ⟨fun _ => hN _ _ _ _ _ _ _ hf, fun hc0 => ⟨fun _ => hN _ _ _ _ _ _ _ hf, fun hx => absurd (by rw [hv hc0]; exact xcmp_self _) hx⟩⟩, fun hne => absurd (h0.trans hc.symm) hne⟩
  refine u_99_0 (ca_log (hS := h.st) (hW := h.wf) ?_)
  intro D1 hD
  rw [← hA]
  clear hA
  cases A with
  | inl q =>
    show RY d 99 8 _ [vi q, vi 0, vr 420] V D1 _
    refine u_99_8 ⟨⟨by decide, by decide⟩, fun D2 hD2 => ?_⟩
    exact mid V D2 0 Cor.rf (by rw [hD2]; exact hD) rfl (fun _ => by rw [hD2]; show up2 D1.1 420 0 (q) 420 0 = q; exact up2_at _ _ _ _)
  | inr E =>
    have hEE := hE E rfl
    obtain rfl : E = 4 := by simpa using hEE
    show RY d 99 13 _ [vr 0] V D1 _
    exact u_99_13 (mid V D1 1 Cor.rf hD rfl (fun hx => absurd hx (by decide)))
end LOOPO2
