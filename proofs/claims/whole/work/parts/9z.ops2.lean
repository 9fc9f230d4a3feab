/-! ===== THE LOOP'S CALLS 2 (printed by wip/whole/gen_ops.py) ===== -/
section LOOPO1
variable {S : Nat → Int} {L d : Nat} {V : xF} {D : yD} {k : Nat} {b : Nat → Int} {n i4 : Int} {ls : List Ln} {Q : xRes → xF → yD → Prop} {v5 v6 : xV}
theorem op_21 (h : Inv S L V D k b n ls) (hB : BB i4 L) (h32 : ∀ j, r32 (V 1 j)) (hd : 30 ≤ d) (hN : NX S L d k Q i4) : RY d 45 0 [vr 70, vi (V 1 ((wr (i4 + 1)).toNat)), vi (V 1 ((wr (i4 + 2)).toNat)), vi (V 1 ((wr (i4 + 3)).toNat)), vr 420, vr 0] [] V D (yback d 381 1659 [vr 1, vr 70, vr 405, vr 420, vi i4, v5, v6] [] Q) := by
  obtain ⟨A, hA⟩ : ∃ A, A = (aAsk (V 406) (V 1 ((wr (i4 + 1)).toNat)) (V 1 ((wr (i4 + 2)).toNat)) (V 1 ((wr (i4 + 3)).toNat)) (fun f => ldT f 64)) := ⟨_, rfl⟩
  have hE : eIn [2] A := by rw [hA]; exact e_loudest
  have mid : ∀ (V1 : xF) (D1 : yD) (c : Int), Cor V V1 → CorD D D1 → c = cd1 A → (c = 0 → D1.1 420 0 = mVal A) → RY d 381 1659 [vr 1, vr 70, vr 405, vr 420, vi i4, v5, v6] [vi c] V1 D1 Q := by
    intro V1 D1 c hC hD hc hv
    obtain ⟨e406, e1, ek, hws, hbv⟩ := h.endR hC hD
    refine u_381_1659 ⟨kk21 ek, kkB ek hB 1 (by decide) (by decide), kk21 ek, kkB ek hB 2 (by decide) (by decide), kk21 ek, kkB ek hB 3 (by decide) (by decide), ?_⟩
    rw [e1]
    refine ma_loudest (hW := (by rw [e406]; exact h.wf)) ?_
    intro V2 h0 hC2
    rw [e406, ← hA] at h0
    rw [e406, ← hA]
    show RY d 381 1683 [vr 1, vr 70, vr 405, vr 420, vi i4, vi c, v6] [vi (mVal A)] V2 D1 Q
    have hf := h.cor (hC.tr hC2) hD
    exact u_381_1683 ⟨fun _ => ⟨fun _ => hN _ _ _ _ _ _ _ hf, fun hc0 => ⟨fun _ => hN _ _ _ _ _ _ _ hf, fun hx => absurd (by rw [hv hc0]; exact xcmp_self _) hx⟩⟩, fun hne => absurd (h0.trans hc.symm) hne⟩
  refine u_45_0 (ca_loudest (hS := h.st) (hB := h.v2) (hW := h.wf) ?_)
  intro V1 D1 hC hD
  rw [← hA]
  clear hA
  cases A with
  | inl q =>
    show RY d 45 10 _ [vi q, vi 0, vr 420] V1 D1 _
    refine u_45_10 ⟨⟨by decide, by decide⟩, fun D2 hD2 => ?_⟩
    exact mid V1 D2 0 hC (by rw [hD2]; exact hD) rfl (fun _ => by rw [hD2]; show up2 D1.1 420 0 (q) 420 0 = q; exact up2_at _ _ _ _)
  | inr E =>
    have hEE := hE E rfl
    obtain rfl : E = 2 := by simpa using hEE
    show RY d 45 15 _ [vr 0] V1 D1 _
    exact u_45_15 (mid V1 D1 1 hC hD rfl (fun hx => absurd hx (by decide)))
theorem op_22 (h : Inv S L V D k b n ls) (hB : BB i4 L) (h32 : ∀ j, r32 (V 1 j)) (hd : 30 ≤ d) (hN : NX S L d k Q i4) : RY d 47 0 [vr 70, vi (V 1 ((wr (i4 + 1)).toNat)), vi (V 1 ((wr (i4 + 2)).toNat)), vi (V 1 ((wr (i4 + 3)).toNat)), vi (V 1 ((wr (i4 + 4)).toNat)), vr 420, vr 0] [] V D (yback d 381 1745 [vr 1, vr 70, vr 405, vr 420, vi i4, v5, v6] [] Q) := by
  obtain ⟨A, hA⟩ : ∃ A, A = (aWh (V 406) (V 1 ((wr (i4 + 1)).toNat)) (V 1 ((wr (i4 + 2)).toNat)) (V 1 ((wr (i4 + 3)).toNat)) (V 1 ((wr (i4 + 4)).toNat))) := ⟨_, rfl⟩
  have hE : eIn [2] A := by rw [hA]; exact e_which
  have mid : ∀ (V1 : xF) (D1 : yD) (c : Int), Cor V V1 → CorD D D1 → c = cd1 A → (c = 0 → D1.1 420 0 = mVal A) → RY d 381 1745 [vr 1, vr 70, vr 405, vr 420, vi i4, v5, v6] [vi c] V1 D1 Q := by
    intro V1 D1 c hC hD hc hv
    obtain ⟨e406, e1, ek, hws, hbv⟩ := h.endR hC hD
    refine u_381_1745 ⟨kk21 ek, kkB ek hB 1 (by decide) (by decide), kk21 ek, kkB ek hB 2 (by decide) (by decide), kk21 ek, kkB ek hB 3 (by decide) (by decide), kk21 ek, kkB ek hB 4 (by decide) (by decide), ?_⟩
    rw [e1]
    refine ma_which (hW := (by rw [e406]; exact h.wf)) ?_
    intro V2 h0 hC2
    rw [e406, ← hA] at h0
    rw [e406, ← hA]
    show RY d 381 1775 [vr 1, vr 70, vr 405, vr 420, vi i4, vi c, v6] [vi (mVal A)] V2 D1 Q
    have hf := h.cor (hC.tr hC2) hD
    exact u_381_1775 ⟨fun _ => ⟨fun _ => hN _ _ _ _ _ _ _ hf, fun hc0 => ⟨fun _ => hN _ _ _ _ _ _ _ hf, fun hx => absurd (by rw [hv hc0]; exact xcmp_self _) hx⟩⟩, fun hne => absurd (h0.trans hc.symm) hne⟩
  refine u_47_0 (ca_which (hS := h.st) (hB := h.v2) (hW := h.wf) ?_)
  intro V1 D1 hC hD
  rw [← hA]
  clear hA
  cases A with
  | inl q =>
    show RY d 47 12 _ [vi q, vi 0, vr 420] V1 D1 _
    refine u_47_12 ⟨⟨by decide, by decide⟩, fun D2 hD2 => ?_⟩
    exact mid V1 D2 0 hC (by rw [hD2]; exact hD) rfl (fun _ => by rw [hD2]; show up2 D1.1 420 0 (q) 420 0 = q; exact up2_at _ _ _ _)
  | inr E =>
    have hEE := hE E rfl
    obtain rfl : E = 2 := by simpa using hEE
    show RY d 47 17 _ [vr 0] V1 D1 _
    exact u_47_17 (mid V1 D1 1 hC hD rfl (fun hx => absurd hx (by decide)))
theorem op_23_0 (h : Inv S L V D k b n ls) (hB : BB i4 L) (h32 : ∀ j, r32 (V 1 j)) (hd : 30 ≤ d) (hN : NX S L d k Q i4) (hz : V 1 ((wr (i4 + 2)).toNat) = 0) : RY d 49 0 [vr 70, vi (V 1 ((wr (i4 + 1)).toNat)), vi 0, vr 420, vr 0] [] V D (yback d 381 1833 [vr 1, vr 70, vr 405, vr 420, vi i4, v5, v6] [] Q) := by
  obtain ⟨A, hA⟩ : ∃ A, A = (aTp (V 406) (V 1 ((wr (i4 + 1)).toNat)) n b (fun rr => whereF (V 406) rr b (n / 2).toNat 0)) := ⟨_, rfl⟩
  have hE : eIn [2, 0] A := by rw [hA]; exact e_where
  have mid : ∀ (V1 : xF) (D1 : yD) (c : Int), Cor (up2 V 76 1 0) V1 → CorD D D1 → c = tpCode A → (c = 0 → D1.1 420 0 = mVal A) → RY d 381 1833 [vr 1, vr 70, vr 405, vr 420, vi i4, v5, v6] [vi c] V1 D1 Q := by
    intro V1 D1 c hC hD hc hv
    obtain ⟨e406, e1, ek, htp⟩ := h.endT hC hD
    refine u_381_1833 ⟨kk21 ek, kkB ek hB 1 (by decide) (by decide), kk21 ek, kkB ek hB 2 (by decide) (by decide), fun _ => ?_, fun hne => absurd hz (by rw [← e1]; exact hne)⟩
    rw [e1]
    refine ma_where (hT := htp) (hW := (by rw [e406]; exact h.wf)) ?_
    intro V2 h0 hC2
    rw [e406, ← hA] at h0
    rw [e406, ← hA]
    show RY d 381 1859 [vr 1, vr 70, vr 405, vr 420, vi i4, vi c, v6] [vi (mVal A)] V2 D1 Q
    have hf := h.tape hC hD hC2
    exact u_381_1859 ⟨fun _ => ⟨fun _ => hN _ _ _ _ _ _ _ hf, fun hc0 => ⟨fun _ => hN _ _ _ _ _ _ _ hf, fun hx => absurd (by rw [hv hc0]; exact xcmp_self _) hx⟩⟩, fun hne => absurd (h0.trans hc.symm) hne⟩
  refine u_49_0 (ca_where (hT := h.tp) (hS := h.st) (hB := h.v2) (hW := h.wf) ?_)
  intro V1 D1 hC hD
  rw [← hA]
  clear hA
  cases A with
  | inl q =>
    show RY d 49 8 _ [vi q, vi 0, vr 420] V1 D1 _
    refine u_49_8 ⟨⟨by decide, by decide⟩, fun D2 hD2 => ?_⟩
    exact mid V1 D2 0 hC (by rw [hD2]; exact hD) rfl (fun _ => by rw [hD2]; show up2 D1.1 420 0 (q) 420 0 = q; exact up2_at _ _ _ _)
  | inr E =>
    have hEE := hE E rfl
    obtain rfl | rfl : E = 2 ∨ E = 0 := by simpa using hEE
    · show RY d 49 13 _ [vr 0] V1 D1 _
      exact u_49_13 (mid V1 D1 1 hC hD rfl (fun hx => absurd hx (by decide)))
    · show RY d 49 17 _ [vr 0] V1 D1 _
      exact u_49_17 (mid V1 D1 2 hC hD rfl (fun hx => absurd hx (by decide)))
theorem op_23_1 (h : Inv S L V D k b n ls) (hB : BB i4 L) (h32 : ∀ j, r32 (V 1 j)) (hd : 30 ≤ d) (hN : NX S L d k Q i4) (hz : V 1 ((wr (i4 + 2)).toNat) ≠ 0) : RY d 49 0 [vr 70, vi (V 1 ((wr (i4 + 1)).toNat)), vi 1, vr 420, vr 0] [] V D (yback d 381 1833 [vr 1, vr 70, vr 405, vr 420, vi i4, v5, v6] [] Q) := by
  obtain ⟨A, hA⟩ : ∃ A, A = (aTp (V 406) (V 1 ((wr (i4 + 1)).toNat)) n b (fun rr => whereF (V 406) rr b (n / 2).toNat 1)) := ⟨_, rfl⟩
  have hE : eIn [2, 0] A := by rw [hA]; exact e_where
  have mid : ∀ (V1 : xF) (D1 : yD) (c : Int), Cor (up2 V 76 1 0) V1 → CorD D D1 → c = tpCode A → (c = 0 → D1.1 420 0 = mVal A) → RY d 381 1833 [vr 1, vr 70, vr 405, vr 420, vi i4, v5, v6] [vi c] V1 D1 Q := by
    intro V1 D1 c hC hD hc hv
    obtain ⟨e406, e1, ek, htp⟩ := h.endT hC hD
    refine u_381_1833 ⟨kk21 ek, kkB ek hB 1 (by decide) (by decide), kk21 ek, kkB ek hB 2 (by decide) (by decide), fun heq => absurd (by rw [← e1]; exact heq) hz, fun _ => ?_⟩
    rw [e1]
    refine ma_where (hT := htp) (hW := (by rw [e406]; exact h.wf)) ?_
    intro V2 h0 hC2
    rw [e406, ← hA] at h0
    rw [e406, ← hA]
    show RY d 381 1859 [vr 1, vr 70, vr 405, vr 420, vi i4, vi c, v6] [vi (mVal A)] V2 D1 Q
    have hf := h.tape hC hD hC2
    exact u_381_1859 ⟨fun _ => ⟨fun _ => hN _ _ _ _ _ _ _ hf, fun hc0 => ⟨fun _ => hN _ _ _ _ _ _ _ hf, fun hx => absurd (by rw [hv hc0]; exact xcmp_self _) hx⟩⟩, fun hne => absurd (h0.trans hc.symm) hne⟩
  refine u_49_0 (ca_where (hT := h.tp) (hS := h.st) (hB := h.v2) (hW := h.wf) ?_)
  intro V1 D1 hC hD
  rw [← hA]
  clear hA
  cases A with
  | inl q =>
    show RY d 49 8 _ [vi q, vi 0, vr 420] V1 D1 _
    refine u_49_8 ⟨⟨by decide, by decide⟩, fun D2 hD2 => ?_⟩
    exact mid V1 D2 0 hC (by rw [hD2]; exact hD) rfl (fun _ => by rw [hD2]; show up2 D1.1 420 0 (q) 420 0 = q; exact up2_at _ _ _ _)
  | inr E =>
    have hEE := hE E rfl
    obtain rfl | rfl : E = 2 ∨ E = 0 := by simpa using hEE
    · show RY d 49 13 _ [vr 0] V1 D1 _
      exact u_49_13 (mid V1 D1 1 hC hD rfl (fun hx => absurd hx (by decide)))
    · show RY d 49 17 _ [vr 0] V1 D1 _
      exact u_49_17 (mid V1 D1 2 hC hD rfl (fun hx => absurd hx (by decide)))
theorem op_24 (h : Inv S L V D k b n ls) (hB : BB i4 L) (h32 : ∀ j, r32 (V 1 j)) (hd : 30 ≤ d) (hN : NX S L d k Q i4) : RY d 51 0 [vr 70, vi (V 1 ((wr (i4 + 1)).toNat)), vr 420, vr 0] [] V D (yback d 381 1903 [vr 1, vr 70, vr 405, vr 420, vi i4, v5, v6] [] Q) := by
  obtain ⟨A, hA⟩ : ∃ A, A = (aTp (V 406) (V 1 ((wr (i4 + 1)).toNat)) n b (fun rr => askP (V 406) rr b (n / 2).toNat)) := ⟨_, rfl⟩
  have hE : eIn [2, 0] A := by rw [hA]; exact e_ask
  have mid : ∀ (V1 : xF) (D1 : yD) (c : Int), Cor (up2 V 76 1 0) V1 → CorD D D1 → c = tpCode A → (c = 0 → D1.1 420 0 = mVal A) → RY d 381 1903 [vr 1, vr 70, vr 405, vr 420, vi i4, v5, v6] [vi c] V1 D1 Q := by
    intro V1 D1 c hC hD hc hv
    obtain ⟨e406, e1, ek, htp⟩ := h.endT hC hD
    refine u_381_1903 ⟨kk21 ek, kkB ek hB 1 (by decide) (by decide), ?_⟩
    rw [e1]
    refine ma_ask (hT := htp) (hW := (by rw [e406]; exact h.wf)) ?_
    intro V2 h0 hC2
    rw [e406, ← hA] at h0
    rw [e406, ← hA]
    show RY d 381 1915 [vr 1, vr 70, vr 405, vr 420, vi i4, vi c, v6] [vi (mVal A)] V2 D1 Q
    have hf := h.tape hC hD hC2
    exact u_381_1915 ⟨fun _ => ⟨fun _ => hN _ _ _ _ _ _ _ hf, fun hc0 => ⟨fun _ => hN _ _ _ _ _ _ _ hf, fun hx => absurd (by rw [hv hc0]; exact xcmp_self _) hx⟩⟩, fun hne => absurd (h0.trans hc.symm) hne⟩
  refine u_51_0 (ca_ask (hT := h.tp) (hS := h.st) (hB := h.v2) (hW := h.wf) ?_)
  intro V1 D1 hC hD
  rw [← hA]
  clear hA
  cases A with
  | inl q =>
    show RY d 51 7 _ [vi q, vi 0, vr 420] V1 D1 _
    refine u_51_7 ⟨⟨by decide, by decide⟩, fun D2 hD2 => ?_⟩
    exact mid V1 D2 0 hC (by rw [hD2]; exact hD) rfl (fun _ => by rw [hD2]; show up2 D1.1 420 0 (q) 420 0 = q; exact up2_at _ _ _ _)
  | inr E =>
    have hEE := hE E rfl
    obtain rfl | rfl : E = 2 ∨ E = 0 := by simpa using hEE
    · show RY d 51 12 _ [vr 0] V1 D1 _
      exact u_51_12 (mid V1 D1 1 hC hD rfl (fun hx => absurd hx (by decide)))
    · show RY d 51 15 _ [vr 0] V1 D1 _
      exact u_51_15 (mid V1 D1 2 hC hD rfl (fun hx => absurd hx (by decide)))
theorem op_25 (h : Inv S L V D k b n ls) (hB : BB i4 L) (h32 : ∀ j, r32 (V 1 j)) (hd : 30 ≤ d) (hN : NX S L d k Q i4) : RY d 53 0 [vr 70, vr 420, vr 0] [] V D (yback d 381 1953 [vr 1, vr 70, vr 405, vr 420, vi i4, v5, v6] [] Q) := by
  obtain ⟨A, hA⟩ : ∃ A, A = (aKnown (V 406) n b) := ⟨_, rfl⟩
  have hE : eIn [0] A := by rw [hA]; exact e_known
  have mid : ∀ (V1 : xF) (D1 : yD) (c : Int), Cor (up2 V 76 1 0) V1 → CorD D D1 → c = mCd 0 A → (c = 0 → D1.1 420 0 = mVal A) → RY d 381 1953 [vr 1, vr 70, vr 405, vr 420, vi i4, v5, v6] [vi c] V1 D1 Q := by
    intro V1 D1 c hC hD hc hv
    obtain ⟨e406, e1, ek, htp⟩ := h.endT hC hD
    refine u_381_1953 ?_
    refine ma_known (hT := htp) (hW := (by rw [e406]; exact h.wf)) ?_
    intro V2 h0 hC2
    rw [e406, ← hA] at h0
    rw [e406, ← hA]
    show RY d 381 1959 [vr 1, vr 70, vr 405, vr 420, vi i4, vi c, v6] [vi (mVal A)] V2 D1 Q
    have hf := h.tape hC hD hC2
    exact u_381_1959 ⟨fun _ => ⟨fun _ => hN _ _ _ _ _ _ _ hf, fun hc0 => ⟨fun _ => hN _ _ _ _ _ _ _ hf, fun hx => absurd (by rw [hv hc0]; exact xcmp_self _) hx⟩⟩, fun hne => absurd (h0.trans hc.symm) hne⟩
  refine u_53_0 (ca_known (hT := h.tp) (hS := h.st) (hB := h.v2) (hW := h.wf) ?_)
  intro V1 D1 hC hD
  rw [← hA]
  clear hA
  cases A with
  | inl q =>
    show RY d 53 6 _ [vi q, vi 0, vr 420] V1 D1 _
    refine u_53_6 ⟨⟨by decide, by decide⟩, fun D2 hD2 => ?_⟩
    exact mid V1 D2 0 hC (by rw [hD2]; exact hD) rfl (fun _ => by rw [hD2]; show up2 D1.1 420 0 (q) 420 0 = q; exact up2_at _ _ _ _)
  | inr E =>
    have hEE := hE E rfl
    obtain rfl : E = 0 := by simpa using hEE
    show RY d 53 11 _ [vr 0] V1 D1 _
    exact u_53_11 (mid V1 D1 1 hC hD rfl (fun hx => absurd hx (by decide)))
theorem op_26 (h : Inv S L V D k b n ls) (hB : BB i4 L) (h32 : ∀ j, r32 (V 1 j)) (hd : 30 ≤ d) (hN : NX S L d k Q i4) : RY d 55 0 [vr 70, vi (V 1 ((wr (i4 + 1)).toNat)), vi (V 1 ((wr (i4 + 2)).toNat)), vr 420, vr 0] [] V D (yback d 381 2009 [vr 1, vr 70, vr 405, vr 420, vi i4, v5, v6] [] Q) := by
  obtain ⟨A, hA⟩ : ∃ A, A = (aApart (V 406) (V 1 ((wr (i4 + 1)).toNat)) (V 1 ((wr (i4 + 2)).toNat))) := ⟨_, rfl⟩
  have hE : eIn [2, 0] A := by rw [hA]; exact e_apart
  have mid : ∀ (V1 : xF) (D1 : yD) (c : Int), Cor V V1 → CorD D D1 → c = mCd 2 A → (c = 0 → D1.1 420 0 = mVal A) → RY d 381 2009 [vr 1, vr 70, vr 405, vr 420, vi i4, v5, v6] [vi c] V1 D1 Q := by
    intro V1 D1 c hC hD hc hv
    obtain ⟨e406, e1, ek, hws, hbv⟩ := h.endR hC hD
    refine u_381_2009 ⟨kk21 ek, kkB ek hB 1 (by decide) (by decide), kk21 ek, kkB ek hB 2 (by decide) (by decide), ?_⟩
    rw [e1]
    refine ma_apart (hW := (by rw [e406]; exact h.wf)) ?_
    intro V2 h0 hC2
    rw [e406, ← hA] at h0
    rw [e406, ← hA]
    show RY d 381 2027 [vr 1, vr 70, vr 405, vr 420, vi i4, vi c, v6] [vi (mVal A)] V2 D1 Q
    have hf := h.cor (hC.tr hC2) hD
    exact u_381_2027 ⟨fun _ => ⟨fun _ => hN _ _ _ _ _ _ _ hf, fun hc0 => ⟨fun _ => hN _ _ _ _ _ _ _ hf, fun hx => absurd (by rw [hv hc0]; exact xcmp_self _) hx⟩⟩, fun hne => absurd (h0.trans hc.symm) hne⟩
  refine u_55_0 (ca_apart (hS := h.st) (hB := h.v2) (hW := h.wf) ?_)
  intro V1 D1 hC hD
  rw [← hA]
  clear hA
  cases A with
  | inl q =>
    show RY d 55 8 _ [vi q, vi 0, vr 420] V1 D1 _
    refine u_55_8 ⟨⟨by decide, by decide⟩, fun D2 hD2 => ?_⟩
    exact mid V1 D2 0 hC (by rw [hD2]; exact hD) rfl (fun _ => by rw [hD2]; show up2 D1.1 420 0 (q) 420 0 = q; exact up2_at _ _ _ _)
  | inr E =>
    have hEE := hE E rfl
    obtain rfl | rfl : E = 2 ∨ E = 0 := by simpa using hEE
    · show RY d 55 13 _ [vr 0] V1 D1 _
      exact u_55_13 (mid V1 D1 1 hC hD rfl (fun hx => absurd hx (by decide)))
    · show RY d 55 17 _ [vr 0] V1 D1 _
      exact u_55_17 (mid V1 D1 2 hC hD rfl (fun hx => absurd hx (by decide)))
theorem op_27 (h : Inv S L V D k b n ls) (hB : BB i4 L) (h32 : ∀ j, r32 (V 1 j)) (hd : 30 ≤ d) (hN : NX S L d k Q i4) : RY d 57 0 [vr 70] [] V D (yback d 381 2064 [vr 1, vr 70, vr 405, vr 420, vi i4, v5, v6] [] Q) := by
  refine ca_twins (hS := h.st) (hB := h.v2) (hW := h.wf) ?_
  intro V1 hC
  obtain ⟨e406, e1, ek, hws, hbv⟩ := h.endR hC (CorD.rf : CorD D D)
  show RY d 381 2064 [vr 1, vr 70, vr 405, vr 420, vi i4, v5, v6] [vi (twinsF (V 406))] V1 D Q
  refine u_381_2064 ?_
  refine ma_twins (hW := (by rw [e406]; exact h.wf)) ?_
  intro V2 h0 hC2
  show RY d 381 2068 [vr 1, vr 70, vr 405, vr 420, vi i4, v5, v6] [vi _, vi (twinsF (V 406))] V2 D Q
  exact u_381_2068 ⟨fun _ => hN _ _ _ _ _ _ _ (h.cor (Cor.tr hC hC2) CorD.rf), fun hne => absurd (by first | rfl | rw [e406]) hne⟩
theorem op_28_0 (h : Inv S L V D k b n ls) (hB : BB i4 L) (h32 : ∀ j, r32 (V 1 j)) (hd : 30 ≤ d) (hN : NX S L d k Q i4) (hz : V 1 ((wr (i4 + 1)).toNat) = 0) : RY d 59 0 [vr 70, vi 0] [] V D (yback d 381 2091 [vr 1, vr 70, vr 405, vr 420, vi i4, v5, v6] [] Q) := by
  refine ca_best (hS := h.st) (hB := h.v2) (hW := h.wf) ?_
  intro V1 hC
  obtain ⟨e406, e1, ek, hws, hbv⟩ := h.endR hC (CorD.rf : CorD D D)
  show RY d 381 2091 [vr 1, vr 70, vr 405, vr 420, vi i4, v5, v6] [vi (bestF (V 406) 0)] V1 D Q
  refine u_381_2091 ⟨kk21 ek, kkB ek hB 1 (by decide) (by decide), fun _ => ?_, fun hne => absurd hz (by rw [← e1]; exact hne)⟩
  refine ma_best (hW := (by rw [e406]; exact h.wf)) ?_
  intro V2 h0 hC2
  show RY d 381 2109 [vr 1, vr 70, vr 405, vr 420, vi i4, v5, v6] [vi _, vi (bestF (V 406) 0)] V2 D Q
  exact u_381_2109 ⟨fun _ => hN _ _ _ _ _ _ _ (h.cor (Cor.tr hC hC2) CorD.rf), fun hne => absurd (by first | rfl | rw [e406]) hne⟩
theorem op_28_1 (h : Inv S L V D k b n ls) (hB : BB i4 L) (h32 : ∀ j, r32 (V 1 j)) (hd : 30 ≤ d) (hN : NX S L d k Q i4) (hz : V 1 ((wr (i4 + 1)).toNat) ≠ 0) : RY d 59 0 [vr 70, vi 1] [] V D (yback d 381 2091 [vr 1, vr 70, vr 405, vr 420, vi i4, v5, v6] [] Q) := by
  refine ca_best (hS := h.st) (hB := h.v2) (hW := h.wf) ?_
  intro V1 hC
  obtain ⟨e406, e1, ek, hws, hbv⟩ := h.endR hC (CorD.rf : CorD D D)
  show RY d 381 2091 [vr 1, vr 70, vr 405, vr 420, vi i4, v5, v6] [vi (bestF (V 406) 1)] V1 D Q
  refine u_381_2091 ⟨kk21 ek, kkB ek hB 1 (by decide) (by decide), fun heq => absurd (by rw [← e1]; exact heq) hz, fun _ => ?_⟩
  refine ma_best (hW := (by rw [e406]; exact h.wf)) ?_
  intro V2 h0 hC2
  show RY d 381 2109 [vr 1, vr 70, vr 405, vr 420, vi i4, v5, v6] [vi _, vi (bestF (V 406) 1)] V2 D Q
  exact u_381_2109 ⟨fun _ => hN _ _ _ _ _ _ _ (h.cor (Cor.tr hC hC2) CorD.rf), fun hne => absurd (by first | rfl | rw [e406]) hne⟩
theorem op_29_0 (h : Inv S L V D k b n ls) (hB : BB i4 L) (h32 : ∀ j, r32 (V 1 j)) (hd : 30 ≤ d) (hN : NX S L d k Q i4) (hz : V 1 ((wr (i4 + 3)).toNat) = 0) : RY d 61 0 [vr 70, vi (V 1 ((wr (i4 + 1)).toNat)), vi (V 1 ((wr (i4 + 2)).toNat)), vi 0, vr 420, vr 0] [] V D (yback d 381 2145 [vr 1, vr 70, vr 405, vr 420, vi i4, v5, v6] [] Q) := by
  obtain ⟨A, hA⟩ : ∃ A, A = (aHangs (V 406) (V 1 ((wr (i4 + 1)).toNat)) (V 1 ((wr (i4 + 2)).toNat)) 0) := ⟨_, rfl⟩
  have hE : eIn [2, 0] A := by rw [hA]; exact e_hangs
  have mid : ∀ (V1 : xF) (D1 : yD) (c : Int), Cor V V1 → CorD D D1 → c = mCd 2 A → (c = 0 → D1.1 420 0 = mVal A) → RY d 381 2145 [vr 1, vr 70, vr 405, vr 420, vi i4, v5, v6] [vi c] V1 D1 Q := by
    intro V1 D1 c hC hD hc hv
    obtain ⟨e406, e1, ek, hws, hbv⟩ := h.endR hC hD
    refine u_381_2145 ⟨kk21 ek, kkB ek hB 1 (by decide) (by decide), kk21 ek, kkB ek hB 2 (by decide) (by decide), kk21 ek, kkB ek hB 3 (by decide) (by decide), fun _ => ?_, fun hne => absurd hz (by rw [← e1]; exact hne)⟩
    rw [e1]
    refine ma_hangs (hW := (by rw [e406]; exact h.wf)) ?_
    intro V2 h0 hC2
    rw [e406, ← hA] at h0
    rw [e406, ← hA]
    show RY d 381 2177 [vr 1, vr 70, vr 405, vr 420, vi i4, vi c, v6] [vi (mVal A)] V2 D1 Q
    have hf := h.cor (hC.tr hC2) hD
    exact u_381_2177 ⟨fun _ => ⟨fun _ => hN _ _ _ _ _ _ _ hf, fun hc0 => ⟨fun _ => hN _ _ _ _ _ _ _ hf, fun hx => absurd (by rw [hv hc0]; exact xcmp_self _) hx⟩⟩, fun hne => absurd (h0.trans hc.symm) hne⟩
  refine u_61_0 (ca_hangs (hS := h.st) (hB := h.v2) (hW := h.wf) (hl := h.l81) ?_)
  intro V1 D1 hC hD
  rw [← hA]
  clear hA
  cases A with
  | inl q =>
    show RY d 61 10 _ [vi q, vi 0, vr 420] V1 D1 _
    refine u_61_10 ⟨⟨by decide, by decide⟩, fun D2 hD2 => ?_⟩
    exact mid V1 D2 0 hC (by rw [hD2]; exact hD) rfl (fun _ => by rw [hD2]; show up2 D1.1 420 0 (q) 420 0 = q; exact up2_at _ _ _ _)
  | inr E =>
    have hEE := hE E rfl
    obtain rfl | rfl : E = 2 ∨ E = 0 := by simpa using hEE
    · show RY d 61 15 _ [vr 0] V1 D1 _
      exact u_61_15 (mid V1 D1 1 hC hD rfl (fun hx => absurd hx (by decide)))
    · show RY d 61 19 _ [vr 0] V1 D1 _
      exact u_61_19 (mid V1 D1 2 hC hD rfl (fun hx => absurd hx (by decide)))
theorem op_29_1 (h : Inv S L V D k b n ls) (hB : BB i4 L) (h32 : ∀ j, r32 (V 1 j)) (hd : 30 ≤ d) (hN : NX S L d k Q i4) (hz : V 1 ((wr (i4 + 3)).toNat) ≠ 0) : RY d 61 0 [vr 70, vi (V 1 ((wr (i4 + 1)).toNat)), vi (V 1 ((wr (i4 + 2)).toNat)), vi 1, vr 420, vr 0] [] V D (yback d 381 2145 [vr 1, vr 70, vr 405, vr 420, vi i4, v5, v6] [] Q) := by
  obtain ⟨A, hA⟩ : ∃ A, A = (aHangs (V 406) (V 1 ((wr (i4 + 1)).toNat)) (V 1 ((wr (i4 + 2)).toNat)) 1) := ⟨_, rfl⟩
  have hE : eIn [2, 0] A := by rw [hA]; exact e_hangs
  have mid : ∀ (V1 : xF) (D1 : yD) (c : Int), Cor V V1 → CorD D D1 → c = mCd 2 A → (c = 0 → D1.1 420 0 = mVal A) → RY d 381 2145 [vr 1, vr 70, vr 405, vr 420, vi i4, v5, v6] [vi c] V1 D1 Q := by
    intro V1 D1 c hC hD hc hv
    obtain ⟨e406, e1, ek, hws, hbv⟩ := h.endR hC hD
    refine u_381_2145 ⟨kk21 ek, kkB ek hB 1 (by decide) (by decide), kk21 ek, kkB ek hB 2 (by decide) (by decide), kk21 ek, kkB ek hB 3 (by decide) (by decide), fun heq => absurd (by rw [← e1]; exact heq) hz, fun _ => ?_⟩
    rw [e1]
    refine ma_hangs (hW := (by rw [e406]; exact h.wf)) ?_
    intro V2 h0 hC2
    rw [e406, ← hA] at h0
    rw [e406, ← hA]
    show RY d 381 2177 [vr 1, vr 70, vr 405, vr 420, vi i4, vi c, v6] [vi (mVal A)] V2 D1 Q
    have hf := h.cor (hC.tr hC2) hD
    exact u_381_2177 ⟨fun _ => ⟨fun _ => hN _ _ _ _ _ _ _ hf, fun hc0 => ⟨fun _ => hN _ _ _ _ _ _ _ hf, fun hx => absurd (by rw [hv hc0]; exact xcmp_self _) hx⟩⟩, fun hne => absurd (h0.trans hc.symm) hne⟩
  refine u_61_0 (ca_hangs (hS := h.st) (hB := h.v2) (hW := h.wf) (hl := h.l81) ?_)
  intro V1 D1 hC hD
  rw [← hA]
  clear hA
  cases A with
  | inl q =>
    show RY d 61 10 _ [vi q, vi 0, vr 420] V1 D1 _
    refine u_61_10 ⟨⟨by decide, by decide⟩, fun D2 hD2 => ?_⟩
    exact mid V1 D2 0 hC (by rw [hD2]; exact hD) rfl (fun _ => by rw [hD2]; show up2 D1.1 420 0 (q) 420 0 = q; exact up2_at _ _ _ _)
  | inr E =>
    have hEE := hE E rfl
    obtain rfl | rfl : E = 2 ∨ E = 0 := by simpa using hEE
    · show RY d 61 15 _ [vr 0] V1 D1 _
      exact u_61_15 (mid V1 D1 1 hC hD rfl (fun hx => absurd hx (by decide)))
    · show RY d 61 19 _ [vr 0] V1 D1 _
      exact u_61_19 (mid V1 D1 2 hC hD rfl (fun hx => absurd hx (by decide)))
theorem op_30 (h : Inv S L V D k b n ls) (hB : BB i4 L) (h32 : ∀ j, r32 (V 1 j)) (hd : 30 ≤ d) (hN : NX S L d k Q i4) : RY d 63 0 [vr 70, vi (V 1 ((wr (i4 + 1)).toNat)), vi (V 1 ((wr (i4 + 2)).toNat)), vr 420, vr 0] [] V D (yback d 381 2227 [vr 1, vr 70, vr 405, vr 420, vi i4, v5, v6] [] Q) := by
  obtain ⟨A, hA⟩ : ∃ A, A = (aWay (V 406) (V 1 ((wr (i4 + 1)).toNat)) (V 1 ((wr (i4 + 2)).toNat))) := ⟨_, rfl⟩
  have hE : eIn [2] A := by rw [hA]; exact e_way
  have mid : ∀ (V1 : xF) (D1 : yD) (c : Int), Cor V V1 → CorD D D1 → c = mCd 2 A → (c = 0 → D1.1 420 0 = mVal A) → RY d 381 2227 [vr 1, vr 70, vr 405, vr 420, vi i4, v5, v6] [vi c] V1 D1 Q := by
    intro V1 D1 c hC hD hc hv
    obtain ⟨e406, e1, ek, hws, hbv⟩ := h.endR hC hD
    refine u_381_2227 ⟨kk21 ek, kkB ek hB 1 (by decide) (by decide), kk21 ek, kkB ek hB 2 (by decide) (by decide), ?_⟩
    rw [e1]
    refine ma_way (hW := (by rw [e406]; exact h.wf)) ?_
    intro V2 h0 hC2
    rw [e406, ← hA] at h0
    rw [e406, ← hA]
    show RY d 381 2245 [vr 1, vr 70, vr 405, vr 420, vi i4, vi c, v6] [vi (mVal A)] V2 D1 Q
    have hf := h.cor (hC.tr hC2) hD
    exact u_381_2245 ⟨fun _ => ⟨fun _ => hN _ _ _ _ _ _ _ hf, fun hc0 => ⟨fun _ => hN _ _ _ _ _ _ _ hf, fun hx => absurd (by rw [hv hc0]; exact xcmp_self _) hx⟩⟩, fun hne => absurd (h0.trans hc.symm) hne⟩
  refine u_63_0 (ca_way (hS := h.st) (hW := h.wf) ?_)
  intro D1 hD
  rw [← hA]
  clear hA
  cases A with
  | inl q =>
    show RY d 63 8 _ [vi q, vi 0, vr 420] V D1 _
    refine u_63_8 ⟨⟨by decide, by decide⟩, fun D2 hD2 => ?_⟩
    exact mid V D2 0 Cor.rf (by rw [hD2]; exact hD) rfl (fun _ => by rw [hD2]; show up2 D1.1 420 0 (q) 420 0 = q; exact up2_at _ _ _ _)
  | inr E =>
    have hEE := hE E rfl
    obtain rfl : E = 2 := by simpa using hEE
    show RY d 63 13 _ [vr 0] V D1 _
    exact u_63_13 (mid V D1 1 Cor.rf hD rfl (fun hx => absurd hx (by decide)))
theorem op_31 (h : Inv S L V D k b n ls) (hB : BB i4 L) (h32 : ∀ j, r32 (V 1 j)) (hd : 30 ≤ d) (hN : NX S L d k Q i4) : RY d 65 0 [vr 70, vi (V 1 ((wr (i4 + 1)).toNat)), vr 420, vr 0] [] V D (yback d 381 2289 [vr 1, vr 70, vr 405, vr 420, vi i4, v5, v6] [] Q) := by
  obtain ⟨A, hA⟩ : ∃ A, A = (aWing (V 406) (V 1 ((wr (i4 + 1)).toNat))) := ⟨_, rfl⟩
  have hE : eIn [2] A := by rw [hA]; exact e_wing
  have mid : ∀ (V1 : xF) (D1 : yD) (c : Int), Cor V V1 → CorD D D1 → c = mCd 2 A → (c = 0 → D1.1 420 0 = mVal A) → RY d 381 2289 [vr 1, vr 70, vr 405, vr 420, vi i4, v5, v6] [vi c] V1 D1 Q := by
    intro V1 D1 c hC hD hc hv
    obtain ⟨e406, e1, ek, hws, hbv⟩ := h.endR hC hD
    refine u_381_2289 ⟨kk21 ek, kkB ek hB 1 (by decide) (by decide), ?_⟩
    rw [e1]
    refine ma_wing (hW := (by rw [e406]; exact h.wf)) ?_
    intro V2 h0 hC2
    rw [e406, ← hA] at h0
    rw [e406, ← hA]
    show RY d 381 2301 [vr 1, vr 70, vr 405, vr 420, vi i4, vi c, v6] [vi (mVal A)] V2 D1 Q
    have hf := h.cor (hC.tr hC2) hD
    exact u_381_2301 ⟨fun _ => ⟨fun _ => hN _ _ _ _ _ _ _ hf, fun hc0 => ⟨fun _ => hN _ _ _ _ _ _ _ hf, fun hx => absurd (by rw [hv hc0]; exact xcmp_self _) hx⟩⟩, fun hne => absurd (h0.trans hc.symm) hne⟩
  refine u_65_0 (ca_wing (hS := h.st) (hW := h.wf) ?_)
  intro D1 hD
  rw [← hA]
  clear hA
  cases A with
  | inl q =>
    show RY d 65 7 _ [vi q, vi 0, vr 420] V D1 _
    refine u_65_7 ⟨⟨by decide, by decide⟩, fun D2 hD2 => ?_⟩
    exact mid V D2 0 Cor.rf (by rw [hD2]; exact hD) rfl (fun _ => by rw [hD2]; show up2 D1.1 420 0 (q) 420 0 = q; exact up2_at _ _ _ _)
  | inr E =>
    have hEE := hE E rfl
    obtain rfl : E = 2 := by simpa using hEE
    show RY d 65 12 _ [vr 0] V D1 _
    exact u_65_12 (mid V D1 1 Cor.rf hD rfl (fun hx => absurd hx (by decide)))
theorem op_32 (h : Inv S L V D k b n ls) (hB : BB i4 L) (h32 : ∀ j, r32 (V 1 j)) (hd : 30 ≤ d) (hN : NX S L d k Q i4) : RY d 67 0 [vr 70, vr 0, vr 0, vr 0, vr 0] [] V D (yback d 381 2338 [vr 1, vr 70, vr 405, vr 420, vi i4, v5, v6] [] Q) := by
  refine ca_hinge (hS := h.st) (hW := h.wf) ?_
  obtain ⟨e406, e1, ek, hws, hbv⟩ := h.endR (Cor.rf : Cor V V) (CorD.rf : CorD D D)
  show RY d 381 2338 [vr 1, vr 70, vr 405, vr 420, vi i4, v5, v6] [vi (hingeF (V 406))] V D Q
  refine u_381_2338 ?_
  refine ma_hinge (hW := (by rw [e406]; exact h.wf)) ?_
  intro V2 h0 hC2
  show RY d 381 2342 [vr 1, vr 70, vr 405, vr 420, vi i4, v5, v6] [vi _, vi (hingeF (V 406))] V2 D Q
  exact u_381_2342 ⟨fun _ => hN _ _ _ _ _ _ _ (h.cor (Cor.tr (Cor.rf : Cor V V) hC2) CorD.rf), fun hne => absurd (by first | rfl | rw [e406]) hne⟩
theorem op_33 (h : Inv S L V D k b n ls) (hB : BB i4 L) (h32 : ∀ j, r32 (V 1 j)) (hd : 30 ≤ d) (hN : NX S L d k Q i4) : RY d 69 0 [vr 70, vi (V 1 ((wr (i4 + 1)).toNat)), vr 420, vr 0] [] V D (yback d 381 2358 [vr 1, vr 70, vr 405, vr 420, vi i4, v5, v6] [] Q) := by
  obtain ⟨A, hA⟩ : ∃ A, A = (aLets (V 406) ls (V 1 ((wr (i4 + 1)).toNat))) := ⟨_, rfl⟩
  have hE : eIn [2] A := by rw [hA]; exact e_lets
  have mid : ∀ (V1 : xF) (D1 : yD) (c : Int), Cor V V1 → CorD D D1 → c = mCd 2 A → (c = 0 → D1.1 420 0 = mVal A) → RY d 381 2358 [vr 1, vr 70, vr 405, vr 420, vi i4, v5, v6] [vi c] V1 D1 Q := by
    intro V1 D1 c hC hD hc hv
    obtain ⟨e406, e1, ek, hws, hbv⟩ := h.endR hC hD
    refine u_381_2358 ⟨kk21 ek, kkB ek hB 1 (by decide) (by decide), ?_⟩
    rw [e1]
    refine ma_lets (hM := ⟨e406, h.wf, h.law.2.1, hws⟩) (hB := hbv) (hd := hd) ?_
    intro V2 h0 hC2
    rw [← hA] at h0
    rw [← hA]
    show RY d 381 2370 [vr 1, vr 70, vr 405, vr 420, vi i4, vi c, v6] [vi (mVal A)] V2 D1 Q
    have hf := h.cor (hC.tr hC2) hD
    exact u_381_2370 ⟨fun _ => ⟨fun _ => hN _ _ _ _ _ _ _ hf, fun hc0 => ⟨fun _ => hN _ _ _ _ _ _ _ hf, fun hx => absurd (by rw [hv hc0]; exact xcmp_self _) hx⟩⟩, fun hne => absurd (h0.trans hc.symm) hne⟩
  refine u_69_0 (ca_lets (hS := h.st) (hB := h.v2) (hW := h.wf) (hO := h.lo) ?_)
  intro V1 D1 hC hD
  rw [← hA]
  clear hA
  cases A with
  | inl q =>
    show RY d 69 7 _ [vi q, vi 0, vr 420] V1 D1 _
    refine u_69_7 ⟨⟨by decide, by decide⟩, fun D2 hD2 => ?_⟩
    exact mid V1 D2 0 hC (by rw [hD2]; exact hD) rfl (fun _ => by rw [hD2]; show up2 D1.1 420 0 (q) 420 0 = q; exact up2_at _ _ _ _)
  | inr E =>
    have hEE := hE E rfl
    obtain rfl : E = 2 := by simpa using hEE
    show RY d 69 12 _ [vr 0] V1 D1 _
    exact u_69_12 (mid V1 D1 1 hC hD rfl (fun hx => absurd hx (by decide)))
theorem op_34 (h : Inv S L V D k b n ls) (hB : BB i4 L) (h32 : ∀ j, r32 (V 1 j)) (hd : 30 ≤ d) (hN : NX S L d k Q i4) : RY d 71 0 [vr 70, vr 0, vr 0] [] V D (yback d 381 2407 [vr 1, vr 70, vr 405, vr 420, vi i4, v5, v6] [] Q) := by
  refine ca_moves (hS := h.st) (hB := h.v2) (hW := h.wf) (hO := h.lo) ?_
  intro V1 hC
  obtain ⟨e406, e1, ek, hws, hbv⟩ := h.endR hC (CorD.rf : CorD D D)
  show RY d 381 2407 [vr 1, vr 70, vr 405, vr 420, vi i4, v5, v6] [vi (movesF (V 406) ls)] V1 D Q
  refine u_381_2407 ?_
  refine ma_moves (hM := ⟨e406, h.wf, h.law.2.1, hws⟩) (hB := hbv) (hd := hd) ?_
  intro V2 h0 hC2
  show RY d 381 2411 [vr 1, vr 70, vr 405, vr 420, vi i4, v5, v6] [vi _, vi (movesF (V 406) ls)] V2 D Q
  exact u_381_2411 ⟨fun _ => hN _ _ _ _ _ _ _ (h.cor (Cor.tr hC hC2) CorD.rf), fun hne => absurd (by first | rfl | rw [e406]) hne⟩
theorem op_35 (h : Inv S L V D k b n ls) (hB : BB i4 L) (h32 : ∀ j, r32 (V 1 j)) (hd : 30 ≤ d) (hN : NX S L d k Q i4) : RY d 73 0 [vr 70, vi (V 1 ((wr (i4 + 1)).toNat)), vi (V 1 ((wr (i4 + 2)).toNat)), vr 420, vr 0] [] V D (yback d 381 2433 [vr 1, vr 70, vr 405, vr 420, vi i4, v5, v6] [] Q) := by
  obtain ⟨A, hA⟩ : ∃ A, A = (aEarns (V 406) ls (V 1 ((wr (i4 + 1)).toNat)) (V 1 ((wr (i4 + 2)).toNat))) := ⟨_, rfl⟩
  have hE : eIn [2, 0] A := by rw [hA]; exact e_earns
  have mid : ∀ (V1 : xF) (D1 : yD) (c : Int), Cor V V1 → CorD D D1 → c = mCd 2 A → (c = 0 → D1.1 420 0 = mVal A) → RY d 381 2433 [vr 1, vr 70, vr 405, vr 420, vi i4, v5, v6] [vi c] V1 D1 Q := by
    intro V1 D1 c hC hD hc hv
    obtain ⟨e406, e1, ek, hws, hbv⟩ := h.endR hC hD
    refine u_381_2433 ⟨kk21 ek, kkB ek hB 1 (by decide) (by decide), kk21 ek, kkB ek hB 2 (by decide) (by decide), ?_⟩
    rw [e1]
    refine ma_earns (hM := ⟨e406, h.wf, h.law.2.1, hws⟩) (hB := hbv) (hd := hd) ?_
    intro V2 h0 hC2
    rw [← hA] at h0
    rw [← hA]
    show RY d 381 2451 [vr 1, vr 70, vr 405, vr 420, vi i4, vi c, v6] [vi (mVal A)] V2 D1 Q
    have hf := h.cor (hC.tr hC2) hD
    exact u_381_2451 ⟨fun _ => ⟨fun _ => hN _ _ _ _ _ _ _ hf, fun hc0 => ⟨fun _ => hN _ _ _ _ _ _ _ hf, fun hx => absurd (by rw [hv hc0]; exact xcmp_self _) hx⟩⟩, fun hne => absurd (h0.trans hc.symm) hne⟩
  refine u_73_0 (ca_earns (hS := h.st) (hB := h.v2) (hW := h.wf) (hO := h.lo) ?_)
  intro V1 D1 hC hD
  rw [← hA]
  clear hA
  cases A with
  | inl q =>
    show RY d 73 8 _ [vi q, vi 0, vr 420] V1 D1 _
    refine u_73_8 ⟨⟨by decide, by decide⟩, fun D2 hD2 => ?_⟩
    exact mid V1 D2 0 hC (by rw [hD2]; exact hD) rfl (fun _ => by rw [hD2]; show up2 D1.1 420 0 (q) 420 0 = q; exact up2_at _ _ _ _)
  | inr E =>
    have hEE := hE E rfl
    obtain rfl | rfl : E = 2 ∨ E = 0 := by simpa using hEE
    · show RY d 73 13 _ [vr 0] V1 D1 _
      exact u_73_13 (mid V1 D1 1 hC hD rfl (fun hx => absurd hx (by decide)))
    · show RY d 73 17 _ [vr 0] V1 D1 _
      exact u_73_17 (mid V1 D1 2 hC hD rfl (fun hx => absurd hx (by decide)))
end LOOPO1
