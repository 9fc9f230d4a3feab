/-! ===== THE LOOP'S CALLS 1 (printed by wip/whole/gen_ops.py) ===== -/
section LOOPO0
variable {S : Nat → Int} {L d : Nat} {V : xF} {D : yD} {k : Nat} {b : Nat → Int} {n i4 : Int} {ls : List Ln} {Q : xRes → xF → yD → Prop} {v5 v6 : xV}
theorem op_5 (h : Inv S L V D k b n ls) (hB : BB i4 L) (h32 : ∀ j, r32 (V 1 j)) (hd : 30 ≤ d) (hN : NX S L d k Q i4) : RY d 13 0 [vr 70, vi (V 1 ((wr (i4 + 1)).toNat)), vi (V 1 ((wr (i4 + 2)).toNat)), vr 420, vr 0] [] V D (yback d 381 488 [vr 1, vr 70, vr 405, vr 420, vi i4, v5, v6] [] Q) := by
  obtain ⟨A, hA⟩ : ∃ A, A = (aRoom (V 406) ls (V 1 ((wr (i4 + 1)).toNat)) (V 1 ((wr (i4 + 2)).toNat))) := ⟨_, rfl⟩
  have hE : eIn [2, 4] A := by rw [hA]; exact e_room
  have mid : ∀ (V1 : xF) (D1 : yD) (c : Int), Cor V V1 → CorD D D1 → c = mCd 2 A → (c = 0 → D1.1 420 0 = mVal A) → RY d 381 488 [vr 1, vr 70, vr 405, vr 420, vi i4, v5, v6] [vi c] V1 D1 Q := by
    intro V1 D1 c hC hD hc hv
    obtain ⟨e406, e1, ek, hws, hbv⟩ := h.endR hC hD
    refine u_381_488 ⟨kk21 ek, kkB ek hB 1 (by decide) (by decide), kk21 ek, kkB ek hB 2 (by decide) (by decide), ?_⟩
    rw [e1]
    refine ma_room (hM := ⟨e406, h.wf, h.law.2.1, hws⟩) (hB := hbv) (hd := hd) ?_
    intro V2 h0 hC2
    rw [← hA] at h0
    rw [← hA]
    show RY d 381 506 [vr 1, vr 70, vr 405, vr 420, vi i4, vi c, v6] [vi (mVal A)] V2 D1 Q
    have hf := h.cor (hC.tr hC2) hD
    exact u_381_506 ⟨fun _ => ⟨fun _ => hN _ _ _ _ _ _ _ hf, fun hc0 => ⟨fun _ => hN _ _ _ _ _ _ _ hf, fun hx => absurd (by rw [hv hc0]; exact xcmp_self _) hx⟩⟩, fun hne => absurd (h0.trans hc.symm) hne⟩
  refine u_13_0 (ca_room (hS := h.st) (hB := h.v2) (hW := h.wf) (hO := h.lo) ?_)
  intro V1 D1 hC hD
  rw [← hA]
  clear hA
  cases A with
  | inl q =>
    show RY d 13 8 _ [vi q, vi 0, vr 420] V1 D1 _
    refine u_13_8 ⟨⟨by decide, by decide⟩, fun D2 hD2 => ?_⟩
    exact mid V1 D2 0 hC (by rw [hD2]; exact hD) rfl (fun _ => by rw [hD2]; show up2 D1.1 420 0 (q) 420 0 = q; exact up2_at _ _ _ _)
  | inr E =>
    have hEE := hE E rfl
    obtain rfl | rfl : E = 2 ∨ E = 4 := by simpa using hEE
    · show RY d 13 13 _ [vr 0] V1 D1 _
      exact u_13_13 (mid V1 D1 1 hC hD rfl (fun hx => absurd hx (by decide)))
    · show RY d 13 17 _ [vr 0] V1 D1 _
      exact u_13_17 (mid V1 D1 2 hC hD rfl (fun hx => absurd hx (by decide)))
theorem op_6 (h : Inv S L V D k b n ls) (hB : BB i4 L) (h32 : ∀ j, r32 (V 1 j)) (hd : 30 ≤ d) (hN : NX S L d k Q i4) : RY d 15 0 [vr 70, vi (V 1 ((wr (i4 + 1)).toNat)), vi (V 1 ((wr (i4 + 2)).toNat)), vr 420, vr 0] [] V D (yback d 381 556 [vr 1, vr 70, vr 405, vr 420, vi i4, v5, v6] [] Q) := by
  obtain ⟨A, hA⟩ : ∃ A, A = (aTenant (V 406) ls (V 1 ((wr (i4 + 1)).toNat)) (V 1 ((wr (i4 + 2)).toNat))) := ⟨_, rfl⟩
  have hE : eIn [2, 4] A := by rw [hA]; exact e_tenant
  have mid : ∀ (V1 : xF) (D1 : yD) (c : Int), Cor V V1 → CorD D D1 → c = mCd 2 A → (c = 0 → D1.1 420 0 = mVal A) → RY d 381 556 [vr 1, vr 70, vr 405, vr 420, vi i4, v5, v6] [vi c] V1 D1 Q := by
    intro V1 D1 c hC hD hc hv
    obtain ⟨e406, e1, ek, hws, hbv⟩ := h.endR hC hD
    refine u_381_556 ⟨kk21 ek, kkB ek hB 1 (by decide) (by decide), kk21 ek, kkB ek hB 2 (by decide) (by decide), ?_⟩
    rw [e1]
    refine ma_tenant (hM := ⟨e406, h.wf, h.law.2.1, hws⟩) (hB := hbv) (hd := hd) ?_
    intro V2 h0 hC2
    rw [← hA] at h0
    rw [← hA]
    show RY d 381 574 [vr 1, vr 70, vr 405, vr 420, vi i4, vi c, v6] [vi (mVal A)] V2 D1 Q
    have hf := h.cor (hC.tr hC2) hD
    exact u_381_574 ⟨fun _ => ⟨fun _ => hN _ _ _ _ _ _ _ hf, fun hc0 => ⟨fun _ => hN _ _ _ _ _ _ _ hf, fun hx => absurd (by rw [hv hc0]; exact xcmp_self _) hx⟩⟩, fun hne => absurd (h0.trans hc.symm) hne⟩
  refine u_15_0 (ca_tenant (hS := h.st) (hB := h.v2) (hW := h.wf) (hO := h.lo) ?_)
  intro V1 D1 hC hD
  rw [← hA]
  clear hA
  cases A with
  | inl q =>
    show RY d 15 8 _ [vi q, vi 0, vr 420] V1 D1 _
    refine u_15_8 ⟨⟨by decide, by decide⟩, fun D2 hD2 => ?_⟩
    exact mid V1 D2 0 hC (by rw [hD2]; exact hD) rfl (fun _ => by rw [hD2]; show up2 D1.1 420 0 (q) 420 0 = q; exact up2_at _ _ _ _)
  | inr E =>
    have hEE := hE E rfl
    obtain rfl | rfl : E = 2 ∨ E = 4 := by simpa using hEE
    · show RY d 15 13 _ [vr 0] V1 D1 _
      exact u_15_13 (mid V1 D1 1 hC hD rfl (fun hx => absurd hx (by decide)))
    · show RY d 15 17 _ [vr 0] V1 D1 _
      exact u_15_17 (mid V1 D1 2 hC hD rfl (fun hx => absurd hx (by decide)))
theorem op_7 (h : Inv S L V D k b n ls) (hB : BB i4 L) (h32 : ∀ j, r32 (V 1 j)) (hd : 30 ≤ d) (hN : NX S L d k Q i4) : RY d 17 0 [vr 70, vi (V 1 ((wr (i4 + 1)).toNat)), vi (V 1 ((wr (i4 + 2)).toNat)), vr 420, vr 0] [] V D (yback d 381 624 [vr 1, vr 70, vr 405, vr 420, vi i4, v5, v6] [] Q) := by
  obtain ⟨A, hA⟩ : ∃ A, A = (aEsteem (V 406) ls (V 1 ((wr (i4 + 1)).toNat)) (V 1 ((wr (i4 + 2)).toNat))) := ⟨_, rfl⟩
  have hE : eIn [2] A := by rw [hA]; exact e_esteem
  have mid : ∀ (V1 : xF) (D1 : yD) (c : Int), Cor V V1 → CorD D D1 → c = mCd 2 A → (c = 0 → D1.1 420 0 = mVal A) → RY d 381 624 [vr 1, vr 70, vr 405, vr 420, vi i4, v5, v6] [vi c] V1 D1 Q := by
    intro V1 D1 c hC hD hc hv
    obtain ⟨e406, e1, ek, hws, hbv⟩ := h.endR hC hD
    refine u_381_624 ⟨kk21 ek, kkB ek hB 1 (by decide) (by decide), kk21 ek, kkB ek hB 2 (by decide) (by decide), ?_⟩
    rw [e1]
    refine ma_esteem (hM := ⟨e406, h.wf, h.law.2.1, hws⟩) (hB := hbv) (hd := hd) ?_
    intro V2 h0 hC2
    rw [← hA] at h0
    rw [← hA]
    show RY d 381 642 [vr 1, vr 70, vr 405, vr 420, vi i4, vi c, v6] [vi (mVal A)] V2 D1 Q
    have hf := h.cor (hC.tr hC2) hD
    exact u_381_642 ⟨fun _ => ⟨fun _ => hN _ _ _ _ _ _ _ hf, fun hc0 => ⟨fun _ => hN _ _ _ _ _ _ _ hf, fun hx => absurd (by rw [hv hc0]; exact xcmp_self _) hx⟩⟩, fun hne => absurd (h0.trans hc.symm) hne⟩
  refine u_17_0 (ca_esteem (hS := h.st) (hB := h.v2) (hW := h.wf) (hO := h.lo) ?_)
  intro V1 D1 hC hD
  rw [← hA]
  clear hA
  cases A with
  | inl q =>
    show RY d 17 8 _ [vi q, vi 0, vr 420] V1 D1 _
    refine u_17_8 ⟨⟨by decide, by decide⟩, fun D2 hD2 => ?_⟩
    exact mid V1 D2 0 hC (by rw [hD2]; exact hD) rfl (fun _ => by rw [hD2]; show up2 D1.1 420 0 (q) 420 0 = q; exact up2_at _ _ _ _)
  | inr E =>
    have hEE := hE E rfl
    obtain rfl : E = 2 := by simpa using hEE
    show RY d 17 13 _ [vr 0] V1 D1 _
    exact u_17_13 (mid V1 D1 1 hC hD rfl (fun hx => absurd hx (by decide)))
theorem op_8 (h : Inv S L V D k b n ls) (hB : BB i4 L) (h32 : ∀ j, r32 (V 1 j)) (hd : 30 ≤ d) (hN : NX S L d k Q i4) : RY d 19 0 [vr 70, vi (V 1 ((wr (i4 + 1)).toNat)), vi (V 1 ((wr (i4 + 2)).toNat)), vr 420, vr 0] [] V D (yback d 381 692 [vr 1, vr 70, vr 405, vr 420, vi i4, v5, v6] [] Q) := by
  obtain ⟨A, hA⟩ : ∃ A, A = (aRefuses (V 406) ls (V 1 ((wr (i4 + 1)).toNat)) (V 1 ((wr (i4 + 2)).toNat))) := ⟨_, rfl⟩
  have hE : eIn [2] A := by rw [hA]; exact e_refuses
  have mid : ∀ (V1 : xF) (D1 : yD) (c : Int), Cor V V1 → CorD D D1 → c = mCd 2 A → (c = 0 → D1.1 420 0 = (if mVal A = 0 then 0 else 1)) → RY d 381 692 [vr 1, vr 70, vr 405, vr 420, vi i4, v5, v6] [vi c] V1 D1 Q := by
    intro V1 D1 c hC hD hc hv
    obtain ⟨e406, e1, ek, hws, hbv⟩ := h.endR hC hD
    refine u_381_692 ⟨kk21 ek, kkB ek hB 1 (by decide) (by decide), kk21 ek, kkB ek hB 2 (by decide) (by decide), ?_⟩
    rw [e1]
    refine ma_refuses (hM := ⟨e406, h.wf, h.law.2.1, hws⟩) (hB := hbv) (hd := hd) ?_
    intro V2 h0 hC2
    rw [← hA] at h0
    rw [← hA]
    show RY d 381 710 [vr 1, vr 70, vr 405, vr 420, vi i4, vi c, v6] [vi (mVal A)] V2 D1 Q
    have hf := h.cor (hC.tr hC2) hD
    exact u_381_710 ⟨fun _ => ⟨fun _ => hN _ _ _ _ _ _ _ hf, fun hc0 => ⟨fun i0 => ⟨fun _ => hN _ _ _ _ _ _ _ hf, fun hx => absurd (by rw [hv hc0, if_pos i0]; exact xcmp_self _) hx⟩, fun i0 => ⟨fun _ => hN _ _ _ _ _ _ _ hf, fun hx => absurd (by rw [hv hc0, if_neg i0]; exact xcmp_self _) hx⟩⟩⟩, fun hne => absurd (h0.trans hc.symm) hne⟩
  refine u_19_0 (ca_refuses (hS := h.st) (hB := h.v2) (hW := h.wf) (hO := h.lo) ?_)
  intro V1 D1 hC hD
  rw [← hA]
  clear hA
  cases A with
  | inl q =>
    show RY d 19 8 _ [vi q, vi 0, vr 420] V1 D1 _
    refine u_19_8 ⟨fun i0 => ⟨⟨by decide, by decide⟩, fun D2 hD2 => ?_⟩, fun i0 => ⟨⟨by decide, by decide⟩, fun D2 hD2 => ?_⟩⟩
    · exact mid V1 D2 0 hC (by rw [hD2]; exact hD) rfl (fun _ => by rw [hD2]; show up2 D1.1 420 0 0 420 0 = (if q = 0 then 0 else 1); rw [if_pos i0]; exact up2_at _ _ _ _)
    · exact mid V1 D2 0 hC (by rw [hD2]; exact hD) rfl (fun _ => by rw [hD2]; show up2 D1.1 420 0 1 420 0 = (if q = 0 then 0 else 1); rw [if_neg i0]; exact up2_at _ _ _ _)
  | inr E =>
    have hEE := hE E rfl
    obtain rfl : E = 2 := by simpa using hEE
    show RY d 19 20 _ [vr 0] V1 D1 _
    exact u_19_20 (mid V1 D1 1 hC hD rfl (fun hx => absurd hx (by decide)))
theorem op_9 (h : Inv S L V D k b n ls) (hB : BB i4 L) (h32 : ∀ j, r32 (V 1 j)) (hd : 30 ≤ d) (hN : NX S L d k Q i4) : RY d 21 0 [vr 70, vi (V 1 ((wr (i4 + 1)).toNat)), vi (V 1 ((wr (i4 + 2)).toNat)), vr 420, vr 0] [] V D (yback d 381 767 [vr 1, vr 70, vr 405, vr 420, vi i4, v5, v6] [] Q) := by
  obtain ⟨A, hA⟩ : ∃ A, A = (aOpen (V 406) (V 1 ((wr (i4 + 1)).toNat)) (V 1 ((wr (i4 + 2)).toNat))) := ⟨_, rfl⟩
  have hE : eIn [2, 0] A := by rw [hA]; exact e_isOpen
  have mid : ∀ (V1 : xF) (D1 : yD) (c : Int), Cor V V1 → CorD D D1 → c = mCd 2 A → (c = 0 → D1.1 420 0 = (if mVal A = 0 then 0 else 1)) → RY d 381 767 [vr 1, vr 70, vr 405, vr 420, vi i4, v5, v6] [vi c] V1 D1 Q := by
    intro V1 D1 c hC hD hc hv
    obtain ⟨e406, e1, ek, hws, hbv⟩ := h.endR hC hD
    refine u_381_767 ⟨kk21 ek, kkB ek hB 1 (by decide) (by decide), kk21 ek, kkB ek hB 2 (by decide) (by decide), ?_⟩
    rw [e1]
    refine ma_isOpen (hW := (by rw [e406]; exact h.wf)) ?_
    intro V2 h0 hC2
    rw [e406, ← hA] at h0
    rw [e406, ← hA]
    show RY d 381 785 [vr 1, vr 70, vr 405, vr 420, vi i4, vi c, v6] [vi (mVal A)] V2 D1 Q
    have hf := h.cor (hC.tr hC2) hD
    exact u_381_785 ⟨fun _ => ⟨fun _ => hN _ _ _ _ _ _ _ hf, fun hc0 => ⟨fun i0 => ⟨fun _ => hN _ _ _ _ _ _ _ hf, fun hx => absurd (by rw [hv hc0, if_pos i0]; exact xcmp_self _) hx⟩, fun i0 => ⟨fun _ => hN _ _ _ _ _ _ _ hf, fun hx => absurd (by rw [hv hc0, if_neg i0]; exact xcmp_self _) hx⟩⟩⟩, fun hne => absurd (h0.trans hc.symm) hne⟩
  refine u_21_0 (ca_isOpen (hS := h.st) (hW := h.wf) ?_)
  intro D1 hD
  rw [← hA]
  clear hA
  cases A with
  | inl q =>
    show RY d 21 8 _ [vi q, vi 0, vr 420] V D1 _
    refine u_21_8 ⟨fun i0 => ⟨⟨by decide, by decide⟩, fun D2 hD2 => ?_⟩, fun i0 => ⟨⟨by decide, by decide⟩, fun D2 hD2 => ?_⟩⟩
    · exact mid V D2 0 Cor.rf (by rw [hD2]; exact hD) rfl (fun _ => by rw [hD2]; show up2 D1.1 420 0 0 420 0 = (if q = 0 then 0 else 1); rw [if_pos i0]; exact up2_at _ _ _ _)
    · exact mid V D2 0 Cor.rf (by rw [hD2]; exact hD) rfl (fun _ => by rw [hD2]; show up2 D1.1 420 0 1 420 0 = (if q = 0 then 0 else 1); rw [if_neg i0]; exact up2_at _ _ _ _)
  | inr E =>
    have hEE := hE E rfl
    obtain rfl | rfl : E = 2 ∨ E = 0 := by simpa using hEE
    · show RY d 21 20 _ [vr 0] V D1 _
      exact u_21_20 (mid V D1 1 Cor.rf hD rfl (fun hx => absurd hx (by decide)))
    · show RY d 21 24 _ [vr 0] V D1 _
      exact u_21_24 (mid V D1 2 Cor.rf hD rfl (fun hx => absurd hx (by decide)))
theorem op_10_0 (h : Inv S L V D k b n ls) (hB : BB i4 L) (h32 : ∀ j, r32 (V 1 j)) (hd : 30 ≤ d) (hN : NX S L d k Q i4) (hz : V 1 ((wr (i4 + 5)).toNat) = 0) : RY d 23 0 [vr 70, vi (V 1 ((wr (i4 + 1)).toNat)), vi (V 1 ((wr (i4 + 2)).toNat)), vi (V 1 ((wr (i4 + 3)).toNat)), vi (V 1 ((wr (i4 + 4)).toNat)), vi 0, vr 420, vr 0] [] V D (yback d 381 868 [vr 1, vr 70, vr 405, vr 420, vi i4, v5, v6] [] Q) := by
  obtain ⟨A, hA⟩ : ∃ A, A = (aAsk (V 406) (V 1 ((wr (i4 + 1)).toNat)) (V 1 ((wr (i4 + 2)).toNat)) (V 1 ((wr (i4 + 3)).toNat)) (ekF (V 1 ((wr (i4 + 4)).toNat)) 0)) := ⟨_, rfl⟩
  have hE : eIn [2] A := by rw [hA]; exact e_echo
  have mid : ∀ (V1 : xF) (D1 : yD) (c : Int), Cor V V1 → CorD D D1 → c = cd1 A → (c = 0 → D1.1 420 0 = mVal A) → RY d 381 868 [vr 1, vr 70, vr 405, vr 420, vi i4, v5, v6] [vi c] V1 D1 Q := by
    intro V1 D1 c hC hD hc hv
    obtain ⟨e406, e1, ek, hws, hbv⟩ := h.endR hC hD
    refine u_381_868 ⟨kk21 ek, kkB ek hB 1 (by decide) (by decide), kk21 ek, kkB ek hB 2 (by decide) (by decide), kk21 ek, kkB ek hB 3 (by decide) (by decide), kk21 ek, kkB ek hB 4 (by decide) (by decide), kk21 ek, kkB ek hB 5 (by decide) (by decide), fun _ => ?_, fun hne => absurd hz (by rw [← e1]; exact hne)⟩
    rw [e1]
    refine ma_echo (hk := ⟨(h32 _).1, by have := (h32 ((wr (i4 + 4)).toNat)).2; omega⟩) (hW := (by rw [e406]; exact h.wf)) ?_
    intro V2 h0 hC2
    rw [e406, ← hA] at h0
    rw [e406, ← hA]
    show RY d 381 912 [vr 1, vr 70, vr 405, vr 420, vi i4, vi c, v6] [vi (mVal A)] V2 D1 Q
    have hf := h.cor (hC.tr hC2) hD
    exact u_381_912 ⟨fun _ => ⟨fun _ => hN _ _ _ _ _ _ _ hf, fun hc0 => ⟨fun _ => hN _ _ _ _ _ _ _ hf, fun hx => absurd (by rw [hv hc0]; exact xcmp_self _) hx⟩⟩, fun hne => absurd (h0.trans hc.symm) hne⟩
  refine u_23_0 (ca_echo (hk := ⟨(h32 _).1, by have := (h32 ((wr (i4 + 4)).toNat)).2; omega⟩) (hS := h.st) (hB := h.v2) (hW := h.wf) ?_)
  intro V1 D1 hC hD
  rw [← hA]
  clear hA
  cases A with
  | inl q =>
    show RY d 23 14 _ [vi q, vi 0, vr 420] V1 D1 _
    refine u_23_14 ⟨⟨by decide, by decide⟩, fun D2 hD2 => ?_⟩
    exact mid V1 D2 0 hC (by rw [hD2]; exact hD) rfl (fun _ => by rw [hD2]; show up2 D1.1 420 0 (q) 420 0 = q; exact up2_at _ _ _ _)
  | inr E =>
    have hEE := hE E rfl
    obtain rfl : E = 2 := by simpa using hEE
    show RY d 23 19 _ [vr 0] V1 D1 _
    exact u_23_19 (mid V1 D1 1 hC hD rfl (fun hx => absurd hx (by decide)))
theorem op_10_1 (h : Inv S L V D k b n ls) (hB : BB i4 L) (h32 : ∀ j, r32 (V 1 j)) (hd : 30 ≤ d) (hN : NX S L d k Q i4) (hz : V 1 ((wr (i4 + 5)).toNat) ≠ 0) : RY d 23 0 [vr 70, vi (V 1 ((wr (i4 + 1)).toNat)), vi (V 1 ((wr (i4 + 2)).toNat)), vi (V 1 ((wr (i4 + 3)).toNat)), vi (V 1 ((wr (i4 + 4)).toNat)), vi 1, vr 420, vr 0] [] V D (yback d 381 868 [vr 1, vr 70, vr 405, vr 420, vi i4, v5, v6] [] Q) := by
  obtain ⟨A, hA⟩ : ∃ A, A = (aAsk (V 406) (V 1 ((wr (i4 + 1)).toNat)) (V 1 ((wr (i4 + 2)).toNat)) (V 1 ((wr (i4 + 3)).toNat)) (ekF (V 1 ((wr (i4 + 4)).toNat)) 1)) := ⟨_, rfl⟩
  have hE : eIn [2] A := by rw [hA]; exact e_echo
  have mid : ∀ (V1 : xF) (D1 : yD) (c : Int), Cor V V1 → CorD D D1 → c = cd1 A → (c = 0 → D1.1 420 0 = mVal A) → RY d 381 868 [vr 1, vr 70, vr 405, vr 420, vi i4, v5, v6] [vi c] V1 D1 Q := by
    intro V1 D1 c hC hD hc hv
    obtain ⟨e406, e1, ek, hws, hbv⟩ := h.endR hC hD
    refine u_381_868 ⟨kk21 ek, kkB ek hB 1 (by decide) (by decide), kk21 ek, kkB ek hB 2 (by decide) (by decide), kk21 ek, kkB ek hB 3 (by decide) (by decide), kk21 ek, kkB ek hB 4 (by decide) (by decide), kk21 ek, kkB ek hB 5 (by decide) (by decide), fun heq => absurd (by rw [← e1]; exact heq) hz, fun _ => ?_⟩
    rw [e1]
    refine ma_echo (hk := ⟨(h32 _).1, by have := (h32 ((wr (i4 + 4)).toNat)).2; omega⟩) (hW := (by rw [e406]; exact h.wf)) ?_
    intro V2 h0 hC2
    rw [e406, ← hA] at h0
    rw [e406, ← hA]
    show RY d 381 912 [vr 1, vr 70, vr 405, vr 420, vi i4, vi c, v6] [vi (mVal A)] V2 D1 Q
    have hf := h.cor (hC.tr hC2) hD
    exact u_381_912 ⟨fun _ => ⟨fun _ => hN _ _ _ _ _ _ _ hf, fun hc0 => ⟨fun _ => hN _ _ _ _ _ _ _ hf, fun hx => absurd (by rw [hv hc0]; exact xcmp_self _) hx⟩⟩, fun hne => absurd (h0.trans hc.symm) hne⟩
  refine u_23_0 (ca_echo (hk := ⟨(h32 _).1, by have := (h32 ((wr (i4 + 4)).toNat)).2; omega⟩) (hS := h.st) (hB := h.v2) (hW := h.wf) ?_)
  intro V1 D1 hC hD
  rw [← hA]
  clear hA
  cases A with
  | inl q =>
    show RY d 23 14 _ [vi q, vi 0, vr 420] V1 D1 _
    refine u_23_14 ⟨⟨by decide, by decide⟩, fun D2 hD2 => ?_⟩
    exact mid V1 D2 0 hC (by rw [hD2]; exact hD) rfl (fun _ => by rw [hD2]; show up2 D1.1 420 0 (q) 420 0 = q; exact up2_at _ _ _ _)
  | inr E =>
    have hEE := hE E rfl
    obtain rfl : E = 2 := by simpa using hEE
    show RY d 23 19 _ [vr 0] V1 D1 _
    exact u_23_19 (mid V1 D1 1 hC hD rfl (fun hx => absurd hx (by decide)))
theorem op_11 (h : Inv S L V D k b n ls) (hB : BB i4 L) (h32 : ∀ j, r32 (V 1 j)) (hd : 30 ≤ d) (hN : NX S L d k Q i4) : RY d 25 0 [vr 70, vi (V 1 ((wr (i4 + 1)).toNat)), vr 420, vr 0] [] V D (yback d 381 956 [vr 1, vr 70, vr 405, vr 420, vi i4, v5, v6] [] Q) := by
  obtain ⟨A, hA⟩ : ∃ A : aAct, A = (aDays (V 406) ls (V 1 ((wr (i4 + 1)).toNat))) := ⟨_, rfl⟩
  have hE : eIn [0] (aR A) := by rw [hA]; exact e_days
  have mid : ∀ (V1 : xF) (D1 : yD) (c : Int), EndC A V D V1 D1 → c = mCd 0 (aR A) → (c = 0 → D1.1 420 0 = mVal (aR A)) → RY d 381 956 [vr 1, vr 70, vr 405, vr 420, vi i4, v5, v6] [vi c] V1 D1 Q := by
    intro V1 D1 c hC hc hv
    obtain ⟨e406, e1, h6, ha12, ek, hws, hbv⟩ := h.endC hC
    refine u_381_956 ⟨kk21 ek, kkB ek hB 1 (by decide) (by decide), ?_⟩
    rw [e1]
    refine ma_days (h6 := h6) (ha := ha12) (hM := ⟨e406, h.wf, h.law.2.1, hws⟩) (hB := hbv) (hd := hd) ?_
    intro V2 h0 hC2
    rw [← hA] at h0 hC2
    rw [← hA]
    show RY d 381 968 [vr 1, vr 70, vr 405, vr 420, vi i4, vi c, v6] [vi (mVal (aR A))] V2 D1 Q
    have hf := h.act h6 hC hC2 (by rw [hA]; exact ro_days h.wf)
    exact u_381_968 ⟨fun _ => ⟨fun _ => hN _ _ _ _ _ _ _ hf, fun hc0 => ⟨fun _ => hN _ _ _ _ _ _ _ hf, fun hx => absurd (by rw [hv hc0]; exact xcmp_self _) hx⟩⟩, fun hne => absurd (h0.trans hc.symm) hne⟩
  refine u_25_0 (ca_days (hP := h.pn) (hS := h.st) (hB := h.v2) (hW := h.wf) (hO := h.lo) ?_)
  intro V1 D1 hC
  rw [← hA] at hC ⊢
  clear hA
  cases A with
  | inl q =>
    show RY d 25 7 _ [vi q.1, vi 0, vr 420] V1 D1 _
    refine u_25_7 ⟨⟨by decide, by decide⟩, fun D2 hD2 => ?_⟩
    exact mid V1 D2 0 (by rw [hD2]; exact hC) rfl (fun _ => by rw [hD2]; show up2 D1.1 420 0 (q.1) 420 0 = q.1; exact up2_at _ _ _ _)
  | inr E =>
    have hEE := hE E rfl
    obtain rfl : E = 0 := by simpa using hEE
    show RY d 25 12 _ [vr 0] V1 D1 _
    exact u_25_12 (mid V1 D1 1 hC rfl (fun hx => absurd hx (by decide)))
theorem op_12 (h : Inv S L V D k b n ls) (hB : BB i4 L) (h32 : ∀ j, r32 (V 1 j)) (hd : 30 ≤ d) (hN : NX S L d k Q i4) : RY d 27 0 [vr 70, vi (V 1 ((wr (i4 + 1)).toNat)), vr 420, vr 0] [] V D (yback d 381 1012 [vr 1, vr 70, vr 405, vr 420, vi i4, v5, v6] [] Q) := by
  obtain ⟨A, hA⟩ : ∃ A : aAct, A = (aStep (V 406) (V 1 ((wr (i4 + 1)).toNat))) := ⟨_, rfl⟩
  have hE : eIn [2, 1] (aR A) := by rw [hA]; exact e_step
  have mid : ∀ (V1 : xF) (D1 : yD) (c : Int), EndC A V D V1 D1 → c = mCd 2 (aR A) → (c = 0 → D1.1 420 0 = mVal (aR A)) → RY d 381 1012 [vr 1, vr 70, vr 405, vr 420, vi i4, v5, v6] [vi c] V1 D1 Q := by
    intro V1 D1 c hC hc hv
    obtain ⟨e406, e1, h6, ha12, ek, hws, hbv⟩ := h.endC hC
    refine u_381_1012 ⟨kk21 ek, kkB ek hB 1 (by decide) (by decide), ?_⟩
    rw [e1]
    refine ma_step (h6 := h6) (ha := ha12) (hW := (by rw [e406]; exact h.wf)) ?_
    intro V2 h0 hC2
    rw [e406, ← hA] at h0 hC2
    rw [e406, ← hA]
    show RY d 381 1024 [vr 1, vr 70, vr 405, vr 420, vi i4, vi c, v6] [vi (mVal (aR A))] V2 D1 Q
    have hf := h.act h6 hC hC2 (by rw [hA]; exact (ro_step h.wf).d)
    exact u_381_1024 ⟨fun _ => ⟨fun _ => hN _ _ _ _ _ _ _ hf, fun hc0 => ⟨fun _ => hN _ _ _ _ _ _ _ hf, fun hx => absurd (by rw [hv hc0]; exact xcmp_self _) hx⟩⟩, fun hne => absurd (h0.trans hc.symm) hne⟩
  refine u_27_0 (ca_step (hP := h.pn) (hS := h.st) (hW := h.wf) ?_)
  intro V1 D1 hC
  rw [← hA] at hC ⊢
  clear hA
  cases A with
  | inl q =>
    show RY d 27 7 _ [vi q.1, vi 0, vr 420] V1 D1 _
    refine u_27_7 ⟨⟨by decide, by decide⟩, fun D2 hD2 => ?_⟩
    exact mid V1 D2 0 (by rw [hD2]; exact hC) rfl (fun _ => by rw [hD2]; show up2 D1.1 420 0 (q.1) 420 0 = q.1; exact up2_at _ _ _ _)
  | inr E =>
    have hEE := hE E rfl
    obtain rfl | rfl : E = 2 ∨ E = 1 := by simpa using hEE
    · show RY d 27 12 _ [vr 0] V1 D1 _
      exact u_27_12 (mid V1 D1 1 hC rfl (fun hx => absurd hx (by decide)))
    · show RY d 27 15 _ [vr 0] V1 D1 _
      exact u_27_15 (mid V1 D1 2 hC rfl (fun hx => absurd hx (by decide)))
theorem op_13 (h : Inv S L V D k b n ls) (hB : BB i4 L) (h32 : ∀ j, r32 (V 1 j)) (hd : 30 ≤ d) (hN : NX S L d k Q i4) : RY d 29 0 [vr 70, vi (V 1 ((wr (i4 + 1)).toNat)), vr 420, vr 0] [] V D (yback d 381 1068 [vr 1, vr 70, vr 405, vr 420, vi i4, v5, v6] [] Q) := by
  obtain ⟨A, hA⟩ : ∃ A : aAct, A = (aEnter (V 406) (V 1 ((wr (i4 + 1)).toNat))) := ⟨_, rfl⟩
  have hE : eIn [2] (aR A) := by rw [hA]; exact e_enter
  have mid : ∀ (V1 : xF) (D1 : yD) (c : Int), EndC A V D V1 D1 → c = mCd 2 (aR A) → (c = 0 → D1.1 420 0 = mVal (aR A)) → RY d 381 1068 [vr 1, vr 70, vr 405, vr 420, vi i4, v5, v6] [vi c] V1 D1 Q := by
    intro V1 D1 c hC hc hv
    obtain ⟨e406, e1, h6, ha12, ek, hws, hbv⟩ := h.endC hC
    refine u_381_1068 ⟨kk21 ek, kkB ek hB 1 (by decide) (by decide), ?_⟩
    rw [e1]
    refine ma_enter (h6 := h6) (ha := ha12) (hW := (by rw [e406]; exact h.wf)) ?_
    intro V2 h0 hC2
    rw [e406, ← hA] at h0 hC2
    rw [e406, ← hA]
    show RY d 381 1080 [vr 1, vr 70, vr 405, vr 420, vi i4, vi c, v6] [vi (mVal (aR A))] V2 D1 Q
    have hf := h.act h6 hC hC2 (by rw [hA]; exact (ro_enter h.wf).d)
    exact u_381_1080 ⟨fun _ => ⟨fun _ => hN _ _ _ _ _ _ _ hf, fun hc0 => ⟨fun _ => hN _ _ _ _ _ _ _ hf, fun hx => absurd (by rw [hv hc0]; exact xcmp_self _) hx⟩⟩, fun hne => absurd (h0.trans hc.symm) hne⟩
  refine u_29_0 (ca_enter (hP := h.pn) (hS := h.st) (hW := h.wf) ?_)
  intro V1 D1 hC
  rw [← hA] at hC ⊢
  clear hA
  cases A with
  | inl q =>
    show RY d 29 7 _ [vi q.1, vi 0, vr 420] V1 D1 _
    refine u_29_7 ⟨⟨by decide, by decide⟩, fun D2 hD2 => ?_⟩
    exact mid V1 D2 0 (by rw [hD2]; exact hC) rfl (fun _ => by rw [hD2]; show up2 D1.1 420 0 (q.1) 420 0 = q.1; exact up2_at _ _ _ _)
  | inr E =>
    have hEE := hE E rfl
    obtain rfl : E = 2 := by simpa using hEE
    show RY d 29 12 _ [vr 0] V1 D1 _
    exact u_29_12 (mid V1 D1 1 hC rfl (fun hx => absurd hx (by decide)))
theorem op_14 (h : Inv S L V D k b n ls) (hB : BB i4 L) (h32 : ∀ j, r32 (V 1 j)) (hd : 30 ≤ d) (hN : NX S L d k Q i4) : RY d 31 0 [vr 70, vr 420, vr 0] [] V D (yback d 381 1118 [vr 1, vr 70, vr 405, vr 420, vi i4, v5, v6] [] Q) := by
  obtain ⟨A, hA⟩ : ∃ A : aAct, A = (aClap (V 406)) := ⟨_, rfl⟩
  have hE : eIn [1] (aR A) := by rw [hA]; exact e_clap
  have mid : ∀ (V1 : xF) (D1 : yD) (c : Int), EndC A V D V1 D1 → c = mCd 1 (aR A) → (c = 0 → D1.1 420 0 = mVal (aR A)) → RY d 381 1118 [vr 1, vr 70, vr 405, vr 420, vi i4, v5, v6] [vi c] V1 D1 Q := by
    intro V1 D1 c hC hc hv
    obtain ⟨e406, e1, h6, ha12, ek, hws, hbv⟩ := h.endC hC
    refine u_381_1118 ?_
    refine ma_clap (h6 := h6) (ha := ha12) (hW := (by rw [e406]; exact h.wf)) ?_
    intro V2 h0 hC2
    rw [e406, ← hA] at h0 hC2
    rw [e406, ← hA]
    show RY d 381 1124 [vr 1, vr 70, vr 405, vr 420, vi i4, vi c, v6] [vi (mVal (aR A))] V2 D1 Q
    have hf := h.act h6 hC hC2 (by rw [hA]; exact (ro_clap h.wf).d)
    exact u_381_1124 ⟨fun _ => ⟨fun _ => hN _ _ _ _ _ _ _ hf, fun hc0 => ⟨fun _ => hN _ _ _ _ _ _ _ hf, fun hx => absurd (by rw [hv hc0]; exact xcmp_self _) hx⟩⟩, fun hne => absurd (h0.trans hc.symm) hne⟩
  refine u_31_0 (ca_clap (hB := h.v2) (hP := h.pn) (hS := h.st) (hW := h.wf) ?_)
  intro V1 D1 hC
  rw [← hA] at hC ⊢
  clear hA
  cases A with
  | inl q =>
    show RY d 31 6 _ [vi q.1, vi 0, vr 420] V1 D1 _
    refine u_31_6 ⟨⟨by decide, by decide⟩, fun D2 hD2 => ?_⟩
    exact mid V1 D2 0 (by rw [hD2]; exact hC) rfl (fun _ => by rw [hD2]; show up2 D1.1 420 0 (q.1) 420 0 = q.1; exact up2_at _ _ _ _)
  | inr E =>
    have hEE := hE E rfl
    obtain rfl : E = 1 := by simpa using hEE
    show RY d 31 11 _ [vr 0] V1 D1 _
    exact u_31_11 (mid V1 D1 1 hC rfl (fun hx => absurd hx (by decide)))
theorem op_15 (h : Inv S L V D k b n ls) (hB : BB i4 L) (h32 : ∀ j, r32 (V 1 j)) (hd : 30 ≤ d) (hN : NX S L d k Q i4) : RY d 33 0 [vr 70, vi (V 1 ((wr (i4 + 1)).toNat)), vi (V 1 ((wr (i4 + 2)).toNat)), vi (V 1 ((wr (i4 + 3)).toNat)), vr 420, vr 0] [] V D (yback d 381 1180 [vr 1, vr 70, vr 405, vr 420, vi i4, v5, v6] [] Q) := by
  obtain ⟨A, hA⟩ : ∃ A : aAct, A = (aHang (V 406) (V 1 ((wr (i4 + 1)).toNat)) (V 1 ((wr (i4 + 2)).toNat)) (V 1 ((wr (i4 + 3)).toNat))) := ⟨_, rfl⟩
  have hE : eIn [2] (aR A) := by rw [hA]; exact e_hang
  have mid : ∀ (V1 : xF) (D1 : yD) (c : Int), EndC A V D V1 D1 → c = mCd 2 (aR A) → (c = 0 → D1.1 420 0 = mVal (aR A)) → RY d 381 1180 [vr 1, vr 70, vr 405, vr 420, vi i4, v5, v6] [vi c] V1 D1 Q := by
    intro V1 D1 c hC hc hv
    obtain ⟨e406, e1, h6, ha12, ek, hws, hbv⟩ := h.endC hC
    refine u_381_1180 ⟨kk21 ek, kkB ek hB 1 (by decide) (by decide), kk21 ek, kkB ek hB 2 (by decide) (by decide), kk21 ek, kkB ek hB 3 (by decide) (by decide), ?_⟩
    rw [e1]
    refine ma_hang (h6 := h6) (ha := ha12) (hW := (by rw [e406]; exact h.wf)) ?_
    intro V2 h0 hC2
    rw [e406, ← hA] at h0 hC2
    rw [e406, ← hA]
    show RY d 381 1204 [vr 1, vr 70, vr 405, vr 420, vi i4, vi c, v6] [vi (mVal (aR A))] V2 D1 Q
    have hf := h.act h6 hC hC2 (by rw [hA]; exact (ro_hang h.wf).d)
    exact u_381_1204 ⟨fun _ => ⟨fun _ => hN _ _ _ _ _ _ _ hf, fun hc0 => ⟨fun _ => hN _ _ _ _ _ _ _ hf, fun hx => absurd (by rw [hv hc0]; exact xcmp_self _) hx⟩⟩, fun hne => absurd (h0.trans hc.symm) hne⟩
  refine u_33_0 (ca_hang (hP := h.pn) (hS := h.st) (hW := h.wf) ?_)
  intro V1 D1 hC
  rw [← hA] at hC ⊢
  clear hA
  cases A with
  | inl q =>
    show RY d 33 10 _ [vi q.1, vi 0, vr 420] V1 D1 _
    refine u_33_10 ⟨⟨by decide, by decide⟩, fun D2 hD2 => ?_⟩
    exact mid V1 D2 0 (by rw [hD2]; exact hC) rfl (fun _ => by rw [hD2]; show up2 D1.1 420 0 (q.1) 420 0 = q.1; exact up2_at _ _ _ _)
  | inr E =>
    have hEE := hE E rfl
    obtain rfl : E = 2 := by simpa using hEE
    show RY d 33 15 _ [vr 0] V1 D1 _
    exact u_33_15 (mid V1 D1 1 hC rfl (fun hx => absurd hx (by decide)))
theorem op_16_0 (h : Inv S L V D k b n ls) (hB : BB i4 L) (h32 : ∀ j, r32 (V 1 j)) (hd : 30 ≤ d) (hN : NX S L d k Q i4) (hz : V 1 ((wr (i4 + 3)).toNat) = 0) : RY d 35 0 [vr 70, vi (V 1 ((wr (i4 + 1)).toNat)), vi (V 1 ((wr (i4 + 2)).toNat)), vi 0, vr 420, vr 0] [] V D (yback d 381 1268 [vr 1, vr 70, vr 405, vr 420, vi i4, v5, v6] [] Q) := by
  obtain ⟨A, hA⟩ : ∃ A : aAct, A = (aDoor (V 406) (V 1 ((wr (i4 + 1)).toNat)) (V 1 ((wr (i4 + 2)).toNat)) 0) := ⟨_, rfl⟩
  have hE : eIn [2, 0] (aR A) := by rw [hA]; exact e_door
  have mid : ∀ (V1 : xF) (D1 : yD) (c : Int), EndC A V D V1 D1 → c = mCd 2 (aR A) → (c = 0 → D1.1 420 0 = (if mVal (aR A) = 0 then 0 else 1)) → RY d 381 1268 [vr 1, vr 70, vr 405, vr 420, vi i4, v5, v6] [vi c] V1 D1 Q := by
    intro V1 D1 c hC hc hv
    obtain ⟨e406, e1, h6, ha12, ek, hws, hbv⟩ := h.endC hC
    refine u_381_1268 ⟨kk21 ek, kkB ek hB 1 (by decide) (by decide), kk21 ek, kkB ek hB 2 (by decide) (by decide), kk21 ek, kkB ek hB 3 (by decide) (by decide), fun _ => ?_, fun hne => absurd hz (by rw [← e1]; exact hne)⟩
    rw [e1]
    refine ma_door (h6 := h6) (ha := ha12) (hW := (by rw [e406]; exact h.wf)) ?_
    intro V2 h0 hC2
    rw [e406, ← hA] at h0 hC2
    rw [e406, ← hA]
    show RY d 381 1300 [vr 1, vr 70, vr 405, vr 420, vi i4, vi c, v6] [vi (mVal (aR A))] V2 D1 Q
    have hf := h.act h6 hC hC2 (by rw [hA]; exact (ro_door h.wf).d)
    exact u_381_1300 ⟨fun _ => ⟨fun _ => hN _ _ _ _ _ _ _ hf, fun hc0 => ⟨fun i0 => ⟨fun _ => hN _ _ _ _ _ _ _ hf, fun hx => absurd (by rw [hv hc0, if_pos i0]; exact xcmp_self _) hx⟩, fun i0 => ⟨fun _ => hN _ _ _ _ _ _ _ hf, fun hx => absurd (by rw [hv hc0, if_neg i0]; exact xcmp_self _) hx⟩⟩⟩, fun hne => absurd (h0.trans hc.symm) hne⟩
  refine u_35_0 (ca_door (hP := h.pn) (hS := h.st) (hW := h.wf) ?_)
  intro V1 D1 hC
  rw [← hA] at hC ⊢
  clear hA
  cases A with
  | inl q =>
    show RY d 35 10 _ [vi q.1, vi 0, vr 420] V1 D1 _
    refine u_35_10 ⟨fun i0 => ⟨⟨by decide, by decide⟩, fun D2 hD2 => ?_⟩, fun i0 => ⟨⟨by decide, by decide⟩, fun D2 hD2 => ?_⟩⟩
    · exact mid V1 D2 0 (by rw [hD2]; exact hC) rfl (fun _ => by rw [hD2]; show up2 D1.1 420 0 0 420 0 = (if q.1 = 0 then 0 else 1); rw [if_pos i0]; exact up2_at _ _ _ _)
    · exact mid V1 D2 0 (by rw [hD2]; exact hC) rfl (fun _ => by rw [hD2]; show up2 D1.1 420 0 1 420 0 = (if q.1 = 0 then 0 else 1); rw [if_neg i0]; exact up2_at _ _ _ _)
  | inr E =>
    have hEE := hE E rfl
    obtain rfl | rfl : E = 2 ∨ E = 0 := by simpa using hEE
    · show RY d 35 22 _ [vr 0] V1 D1 _
      exact u_35_22 (mid V1 D1 1 hC rfl (fun hx => absurd hx (by decide)))
    · show RY d 35 26 _ [vr 0] V1 D1 _
      exact u_35_26 (mid V1 D1 2 hC rfl (fun hx => absurd hx (by decide)))
theorem op_16_1 (h : Inv S L V D k b n ls) (hB : BB i4 L) (h32 : ∀ j, r32 (V 1 j)) (hd : 30 ≤ d) (hN : NX S L d k Q i4) (hz : V 1 ((wr (i4 + 3)).toNat) ≠ 0) : RY d 35 0 [vr 70, vi (V 1 ((wr (i4 + 1)).toNat)), vi (V 1 ((wr (i4 + 2)).toNat)), vi 1, vr 420, vr 0] [] V D (yback d 381 1268 [vr 1, vr 70, vr 405, vr 420, vi i4, v5, v6] [] Q) := by
  obtain ⟨A, hA⟩ : ∃ A : aAct, A = (aDoor (V 406) (V 1 ((wr (i4 + 1)).toNat)) (V 1 ((wr (i4 + 2)).toNat)) 1) := ⟨_, rfl⟩
  have hE : eIn [2, 0] (aR A) := by rw [hA]; exact e_door
  have mid : ∀ (V1 : xF) (D1 : yD) (c : Int), EndC A V D V1 D1 → c = mCd 2 (aR A) → (c = 0 → D1.1 420 0 = (if mVal (aR A) = 0 then 0 else 1)) → RY d 381 1268 [vr 1, vr 70, vr 405, vr 420, vi i4, v5, v6] [vi c] V1 D1 Q := by
    intro V1 D1 c hC hc hv
    obtain ⟨e406, e1, h6, ha12, ek, hws, hbv⟩ := h.endC hC
    refine u_381_1268 ⟨kk21 ek, kkB ek hB 1 (by decide) (by decide), kk21 ek, kkB ek hB 2 (by decide) (by decide), kk21 ek, kkB ek hB 3 (by decide) (by decide), fun heq => absurd (by rw [← e1]; exact heq) hz, fun _ => ?_⟩
    rw [e1]
    refine ma_door (h6 := h6) (ha := ha12) (hW := (by rw [e406]; exact h.wf)) ?_
    intro V2 h0 hC2
    rw [e406, ← hA] at h0 hC2
    rw [e406, ← hA]
    show RY d 381 1300 [vr 1, vr 70, vr 405, vr 420, vi i4, vi c, v6] [vi (mVal (aR A))] V2 D1 Q
    have hf := h.act h6 hC hC2 (by rw [hA]; exact (ro_door h.wf).d)
    exact u_381_1300 ⟨fun _ => ⟨fun _ => hN _ _ _ _ _ _ _ hf, fun hc0 => ⟨fun i0 => ⟨fun _ => hN _ _ _ _ _ _ _ hf, fun hx => absurd (by rw [hv hc0, if_pos i0]; exact xcmp_self _) hx⟩, fun i0 => ⟨fun _ => hN _ _ _ _ _ _ _ hf, fun hx => absurd (by rw [hv hc0, if_neg i0]; exact xcmp_self _) hx⟩⟩⟩, fun hne => absurd (h0.trans hc.symm) hne⟩
  refine u_35_0 (ca_door (hP := h.pn) (hS := h.st) (hW := h.wf) ?_)
  intro V1 D1 hC
  rw [← hA] at hC ⊢
  clear hA
  cases A with
  | inl q =>
    show RY d 35 10 _ [vi q.1, vi 0, vr 420] V1 D1 _
    refine u_35_10 ⟨fun i0 => ⟨⟨by decide, by decide⟩, fun D2 hD2 => ?_⟩, fun i0 => ⟨⟨by decide, by decide⟩, fun D2 hD2 => ?_⟩⟩
    · exact mid V1 D2 0 (by rw [hD2]; exact hC) rfl (fun _ => by rw [hD2]; show up2 D1.1 420 0 0 420 0 = (if q.1 = 0 then 0 else 1); rw [if_pos i0]; exact up2_at _ _ _ _)
    · exact mid V1 D2 0 (by rw [hD2]; exact hC) rfl (fun _ => by rw [hD2]; show up2 D1.1 420 0 1 420 0 = (if q.1 = 0 then 0 else 1); rw [if_neg i0]; exact up2_at _ _ _ _)
  | inr E =>
    have hEE := hE E rfl
    obtain rfl | rfl : E = 2 ∨ E = 0 := by simpa using hEE
    · show RY d 35 22 _ [vr 0] V1 D1 _
      exact u_35_22 (mid V1 D1 1 hC rfl (fun hx => absurd hx (by decide)))
    · show RY d 35 26 _ [vr 0] V1 D1 _
      exact u_35_26 (mid V1 D1 2 hC rfl (fun hx => absurd hx (by decide)))
theorem op_17 (h : Inv S L V D k b n ls) (hB : BB i4 L) (h32 : ∀ j, r32 (V 1 j)) (hd : 30 ≤ d) (hN : NX S L d k Q i4) : RY d 37 0 [vr 70, vi (V 1 ((wr (i4 + 1)).toNat)), vi (V 1 ((wr (i4 + 2)).toNat)), vr 420, vr 0] [] V D (yback d 381 1357 [vr 1, vr 70, vr 405, vr 420, vi i4, v5, v6] [] Q) := by
  obtain ⟨A, hA⟩ : ∃ A : aAct, A = (aRent (V 406) (V 1 ((wr (i4 + 1)).toNat)) (V 1 ((wr (i4 + 2)).toNat))) := ⟨_, rfl⟩
  have hE : eIn [2, 0] (aR A) := by rw [hA]; exact e_rent
  have mid : ∀ (V1 : xF) (D1 : yD) (c : Int), EndC A V D V1 D1 → c = mCd 2 (aR A) → (c = 0 → D1.1 420 0 = mVal (aR A)) → RY d 381 1357 [vr 1, vr 70, vr 405, vr 420, vi i4, v5, v6] [vi c] V1 D1 Q := by
    intro V1 D1 c hC hc hv
    obtain ⟨e406, e1, h6, ha12, ek, hws, hbv⟩ := h.endC hC
    refine u_381_1357 ⟨kk21 ek, kkB ek hB 1 (by decide) (by decide), kk21 ek, kkB ek hB 2 (by decide) (by decide), ?_⟩
    rw [e1]
    refine ma_rent (h6 := h6) (ha := ha12) (hW := (by rw [e406]; exact h.wf)) ?_
    intro V2 h0 hC2
    rw [e406, ← hA] at h0 hC2
    rw [e406, ← hA]
    show RY d 381 1375 [vr 1, vr 70, vr 405, vr 420, vi i4, vi c, v6] [vi (mVal (aR A))] V2 D1 Q
    have hf := h.act h6 hC hC2 (by rw [hA]; exact (ro_rent h.wf).d)
    exact u_381_1375 ⟨fun _ => ⟨fun _ => hN _ _ _ _ _ _ _ hf, fun hc0 => ⟨fun _ => hN _ _ _ _ _ _ _ hf, fun hx => absurd (by rw [hv hc0]; exact xcmp_self _) hx⟩⟩, fun hne => absurd (h0.trans hc.symm) hne⟩
  refine u_37_0 (ca_rent (hP := h.pn) (hS := h.st) (hW := h.wf) ?_)
  intro V1 D1 hC
  rw [← hA] at hC ⊢
  clear hA
  cases A with
  | inl q =>
    show RY d 37 8 _ [vi q.1, vi 0, vr 420] V1 D1 _
    refine u_37_8 ⟨⟨by decide, by decide⟩, fun D2 hD2 => ?_⟩
    exact mid V1 D2 0 (by rw [hD2]; exact hC) rfl (fun _ => by rw [hD2]; show up2 D1.1 420 0 (q.1) 420 0 = q.1; exact up2_at _ _ _ _)
  | inr E =>
    have hEE := hE E rfl
    obtain rfl | rfl : E = 2 ∨ E = 0 := by simpa using hEE
    · show RY d 37 13 _ [vr 0] V1 D1 _
      exact u_37_13 (mid V1 D1 1 hC rfl (fun hx => absurd hx (by decide)))
    · show RY d 37 17 _ [vr 0] V1 D1 _
      exact u_37_17 (mid V1 D1 2 hC rfl (fun hx => absurd hx (by decide)))
theorem op_18 (h : Inv S L V D k b n ls) (hB : BB i4 L) (h32 : ∀ j, r32 (V 1 j)) (hd : 30 ≤ d) (hN : NX S L d k Q i4) : RY d 39 0 [vr 70, vi (V 1 ((wr (i4 + 1)).toNat)), vi (V 1 ((wr (i4 + 2)).toNat)), vr 420, vr 0] [] V D (yback d 381 1425 [vr 1, vr 70, vr 405, vr 420, vi i4, v5, v6] [] Q) := by
  obtain ⟨A, hA⟩ : ∃ A : aAct, A = (aTake (V 406) (V 1 ((wr (i4 + 1)).toNat)) (V 1 ((wr (i4 + 2)).toNat))) := ⟨_, rfl⟩
  have hE : eIn [2, 1] (aR A) := by rw [hA]; exact e_take
  have mid : ∀ (V1 : xF) (D1 : yD) (c : Int), EndC A V D V1 D1 → c = mCd 2 (aR A) → (c = 0 → D1.1 420 0 = mVal (aR A)) → RY d 381 1425 [vr 1, vr 70, vr 405, vr 420, vi i4, v5, v6] [vi c] V1 D1 Q := by
    intro V1 D1 c hC hc hv
    obtain ⟨e406, e1, h6, ha12, ek, hws, hbv⟩ := h.endC hC
    refine u_381_1425 ⟨kk21 ek, kkB ek hB 1 (by decide) (by decide), kk21 ek, kkB ek hB 2 (by decide) (by decide), ?_⟩
    rw [e1]
    refine ma_take (h6 := h6) (ha := ha12) (hW := (by rw [e406]; exact h.wf)) ?_
    intro V2 h0 hC2
    rw [e406, ← hA] at h0 hC2
    rw [e406, ← hA]
    show RY d 381 1443 [vr 1, vr 70, vr 405, vr 420, vi i4, vi c, v6] [vi (mVal (aR A))] V2 D1 Q
    have hf := h.act h6 hC hC2 (by rw [hA]; exact (ro_take h.wf).d)
    exact u_381_1443 ⟨fun _ => ⟨fun _ => hN _ _ _ _ _ _ _ hf, fun hc0 => ⟨fun _ => hN _ _ _ _ _ _ _ hf, fun hx => absurd (by rw [hv hc0]; exact xcmp_self _) hx⟩⟩, fun hne => absurd (h0.trans hc.symm) hne⟩
  refine u_39_0 (ca_take (hP := h.pn) (hS := h.st) (hW := h.wf) ?_)
  intro V1 D1 hC
  rw [← hA] at hC ⊢
  clear hA
  cases A with
  | inl q =>
    show RY d 39 8 _ [vi q.1, vi 0, vr 420] V1 D1 _
    refine u_39_8 ⟨⟨by decide, by decide⟩, fun D2 hD2 => ?_⟩
    exact mid V1 D2 0 (by rw [hD2]; exact hC) rfl (fun _ => by rw [hD2]; show up2 D1.1 420 0 (q.1) 420 0 = q.1; exact up2_at _ _ _ _)
  | inr E =>
    have hEE := hE E rfl
    obtain rfl | rfl : E = 2 ∨ E = 1 := by simpa using hEE
    · show RY d 39 13 _ [vr 0] V1 D1 _
      exact u_39_13 (mid V1 D1 1 hC rfl (fun hx => absurd hx (by decide)))
    · show RY d 39 17 _ [vr 0] V1 D1 _
      exact u_39_17 (mid V1 D1 2 hC rfl (fun hx => absurd hx (by decide)))
theorem op_19 (h : Inv S L V D k b n ls) (hB : BB i4 L) (h32 : ∀ j, r32 (V 1 j)) (hd : 30 ≤ d) (hN : NX S L d k Q i4) : RY d 41 0 [vr 70, vi (V 1 ((wr (i4 + 1)).toNat)), vi (V 1 ((wr (i4 + 2)).toNat)), vi (V 1 ((wr (i4 + 3)).toNat)), vr 420, vr 0] [] V D (yback d 381 1499 [vr 1, vr 70, vr 405, vr 420, vi i4, v5, v6] [] Q) := by
  obtain ⟨A, hA⟩ : ∃ A, A = (aAsk (V 406) (V 1 ((wr (i4 + 1)).toNat)) (V 1 ((wr (i4 + 2)).toNat)) (V 1 ((wr (i4 + 3)).toNat)) (fun f => kth f 0 64 0)) := ⟨_, rfl⟩
  have hE : eIn [2] A := by rw [hA]; exact e_first
  have mid : ∀ (V1 : xF) (D1 : yD) (c : Int), Cor V V1 → CorD D D1 → c = cd1 A → (c = 0 → D1.1 420 0 = mVal A) → RY d 381 1499 [vr 1, vr 70, vr 405, vr 420, vi i4, v5, v6] [vi c] V1 D1 Q := by
    intro V1 D1 c hC hD hc hv
    obtain ⟨e406, e1, ek, hws, hbv⟩ := h.endR hC hD
    refine u_381_1499 ⟨kk21 ek, kkB ek hB 1 (by decide) (by decide), kk21 ek, kkB ek hB 2 (by decide) (by decide), kk21 ek, kkB ek hB 3 (by decide) (by decide), ?_⟩
    rw [e1]
    refine ma_first (hW := (by rw [e406]; exact h.wf)) ?_
    intro V2 h0 hC2
    rw [e406, ← hA] at h0
    rw [e406, ← hA]
    show RY d 381 1523 [vr 1, vr 70, vr 405, vr 420, vi i4, vi c, v6] [vi (mVal A)] V2 D1 Q
    have hf := h.cor (hC.tr hC2) hD
    exact u_381_1523 ⟨fun _ => ⟨fun _ => hN _ _ _ _ _ _ _ hf, fun hc0 => ⟨fun _ => hN _ _ _ _ _ _ _ hf, fun hx => absurd (by rw [hv hc0]; exact xcmp_self _) hx⟩⟩, fun hne => absurd (h0.trans hc.symm) hne⟩
  refine u_41_0 (ca_first (hS := h.st) (hB := h.v2) (hW := h.wf) ?_)
  intro V1 D1 hC hD
  rw [← hA]
  clear hA
  cases A with
  | inl q =>
    show RY d 41 10 _ [vi q, vi 0, vr 420] V1 D1 _
    refine u_41_10 ⟨⟨by decide, by decide⟩, fun D2 hD2 => ?_⟩
    exact mid V1 D2 0 hC (by rw [hD2]; exact hD) rfl (fun _ => by rw [hD2]; show up2 D1.1 420 0 (q) 420 0 = q; exact up2_at _ _ _ _)
  | inr E =>
    have hEE := hE E rfl
    obtain rfl : E = 2 := by simpa using hEE
    show RY d 41 15 _ [vr 0] V1 D1 _
    exact u_41_15 (mid V1 D1 1 hC hD rfl (fun hx => absurd hx (by decide)))
theorem op_20 (h : Inv S L V D k b n ls) (hB : BB i4 L) (h32 : ∀ j, r32 (V 1 j)) (hd : 30 ≤ d) (hN : NX S L d k Q i4) : RY d 43 0 [vr 70, vi (V 1 ((wr (i4 + 1)).toNat)), vi (V 1 ((wr (i4 + 2)).toNat)), vi (V 1 ((wr (i4 + 3)).toNat)), vr 420, vr 0] [] V D (yback d 381 1579 [vr 1, vr 70, vr 405, vr 420, vi i4, v5, v6] [] Q) := by
  obtain ⟨A, hA⟩ : ∃ A, A = (aAsk (V 406) (V 1 ((wr (i4 + 1)).toNat)) (V 1 ((wr (i4 + 2)).toNat)) (V 1 ((wr (i4 + 3)).toNat)) (fun f => lastT f 64)) := ⟨_, rfl⟩
  have hE : eIn [2] A := by rw [hA]; exact e_last
  have mid : ∀ (V1 : xF) (D1 : yD) (c : Int), Cor V V1 → CorD D D1 → c = cd1 A → (c = 0 → D1.1 420 0 = mVal A) → RY d 381 1579 [vr 1, vr 70, vr 405, vr 420, vi i4, v5, v6] [vi c] V1 D1 Q := by
    intro V1 D1 c hC hD hc hv
    obtain ⟨e406, e1, ek, hws, hbv⟩ := h.endR hC hD
    refine u_381_1579 ⟨kk21 ek, kkB ek hB 1 (by decide) (by decide), kk21 ek, kkB ek hB 2 (by decide) (by decide), kk21 ek, kkB ek hB 3 (by decide) (by decide), ?_⟩
    rw [e1]
    refine ma_last (hW := (by rw [e406]; exact h.wf)) ?_
    intro V2 h0 hC2
    rw [e406, ← hA] at h0
    rw [e406, ← hA]
    show RY d 381 1603 [vr 1, vr 70, vr 405, vr 420, vi i4, vi c, v6] [vi (mVal A)] V2 D1 Q
    have hf := h.cor (hC.tr hC2) hD
    exact u_381_1603 ⟨fun _ => ⟨fun _ => hN _ _ _ _ _ _ _ hf, fun hc0 => ⟨fun _ => hN _ _ _ _ _ _ _ hf, fun hx => absurd (by rw [hv hc0]; exact xcmp_self _) hx⟩⟩, fun hne => absurd (h0.trans hc.symm) hne⟩
  refine u_43_0 (ca_last (hS := h.st) (hB := h.v2) (hW := h.wf) ?_)
  intro V1 D1 hC hD
  rw [← hA]
  clear hA
  cases A with
  | inl q =>
    show RY d 43 10 _ [vi q, vi 0, vr 420] V1 D1 _
    refine u_43_10 ⟨⟨by decide, by decide⟩, fun D2 hD2 => ?_⟩
    exact mid V1 D2 0 hC (by rw [hD2]; exact hD) rfl (fun _ => by rw [hD2]; show up2 D1.1 420 0 (q) 420 0 = q; exact up2_at _ _ _ _)
  | inr E =>
    have hEE := hE E rfl
    obtain rfl : E = 2 := by simpa using hEE
    show RY d 43 15 _ [vr 0] V1 D1 _
    exact u_43_15 (mid V1 D1 1 hC hD rfl (fun hx => absurd hx (by decide)))
end LOOPO0
