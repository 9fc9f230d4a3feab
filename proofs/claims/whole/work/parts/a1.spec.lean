/-! ===== THE LOOP'S CALLS THAT READ OR TURN BACK ===== -/
theorem ct_up {x y c e k : Nat} (h : x ≤ c + e * k) (h2 : y ≤ x + e) : y ≤ c + e * (k + 1) := by rw [Nat.mul_succ]; omega
section SPEC
variable {S : Nat → Int} {L d : Nat} {V : xF} {D : yD} {k : Nat} {b : Nat → Int} {n i4 : Int} {ls : List Ln} {Q : xRes → xF → yD → Prop} {v5 v6 : xV}
theorem Inv.read {V1 V2 : xF} {D1 : yD} {p' : Rw} {f : Int} {ls' : List Ln} (h : Inv S L V D k b n ls)
    (g1 : ∀ a, coreA a = true → a ≠ 70 → ¬ (81 ≤ a ∧ a ≤ 91) → a < D.2.2.2.1 → V1 a = V a)
    (g5 : V1 70 5 = V 70 5) (gf : V1 70 1 = f) (g76 : V1 76 1 = 0) (g405 : V1 405 = V 405)
    (gS : St V1 81 p') (gW : WF p') (g15 : r32 (p' 15)) (gL : LawI V2 D1 81 p' ls')
    (g103 : D1.2.1 103 = D.2.1 103) (gK : ∀ a, a < D.2.2.2.1 → D1.2.2.1 a = D.2.2.1 a) (gN : D.2.2.2.1 ≤ D1.2.2.2.1) (gc : D1.2.2.2.2.1 ≤ D.2.2.2.2.1 + 10) (gs : D1.2.2.2.2.2 ≤ D.2.2.2.2.2 + 1000)
    (m : ∀ a, a ≠ 405 → a ≠ 406 → a ≠ 408 → V2 a = V1 a) (m3 : V2 405 3 = V1 405 3) (m8 : V2 405 8 = 0) (m12 : V2 405 12 = f) (mB : Bv V2) (m406 : V2 406 = p') (hP : PastR V2 D1) : Inv S L V2 D1 (k + 1) b 0 ls' := by
  have hct := h.ct
  have c : ∀ a, coreA a = true → a ≠ 70 → a ≠ 406 → ¬ (81 ≤ a ∧ a ≤ 91) → a < D.2.2.2.1 → V2 a = V a := fun a ha h1 h2 h3 h4 => by
    have := coreA_iff ha
    rw [m a (by omega) h2 (by omega), g1 a ha h1 h3 h4]
  have lo : ∀ a, a < 70 → V2 a = V a := fun a ha => c a (core_lt (by omega)) (by omega) (by omega) (by omega) (by omega)
  have s70 : V2 70 = V1 70 := m 70 (by decide) (by decide) (by decide)
  refine ⟨h.tp.nil (c 77 rfl (by decide) (by decide) (by decide) (by omega)) (c 410 rfl (by decide) (by decide) (by decide) (by omega)) (by rw [m 76 (by decide) (by decide) (by decide)]; exact g76) m8, ⟨by rw [lo 2 (by decide)]; exact h.v2, h.ws.mov lo, mB⟩, ?_, ?_, hP, ?_, ⟨by rw [g103]; exact h.l103, ?_⟩, ⟨Nat.le_trans hct.1 gN, ct_up hct.2.1 gc, ct_up hct.2.2 gs⟩, by rw [lo 1 (by decide)]; exact h.v1, by rw [gK 1 (by omega)]; exact h.k1⟩
  · rw [m406]
    exact ⟨gS.keep fun i hi => m _ (by omega) (by omega) (by omega), gW, g15⟩
  · rw [m406]
    exact gL
  · rw [s70, gf, g5, m12, m3, g405]
    exact ⟨rfl, h.fl.2⟩
  · refine h.kep.mov (by rw [m3, g405]) (fun i hi => c _ (core_s (by omega)) (by omega) (by omega) (by omega) (by omega)) (c 407 rfl (by decide) (by decide) (by decide) (by omega)) g103 (fun a ha => c a (core_l ha) (by omega) (by omega) (by omega) (by omega)) (fun a _ g => gK a g) gN
/-- a reading that fails -/
theorem Inv.readF {V1 V2 : xF} {D1 : yD} {f : Int} (h : Inv S L V D k b n ls) (gS : St V1 81 (V 406))
    (g1 : ∀ a, coreA a = true → a ≠ 70 → ¬ (81 ≤ a ∧ a ≤ 91) → V1 a = V a) (g70 : ∀ j, j ≠ 1 → j ≠ 8 → V1 70 j = V 70 j) (gf : V1 70 1 = f) (g8 : V1 70 8 = V 70 8) (g76 : V1 76 1 = 0) (g405 : V1 405 = V 405) (gD : CorD D D1)
    (m : ∀ a, a ≠ 405 → a ≠ 406 → a ≠ 408 → V2 a = V1 a) (m3 : V2 405 3 = V1 405 3) (m8 : V2 405 8 = 0) (m12 : V2 405 12 = f) (m6 : V2 405 6 = V1 405 6) (mB : Bv V2) (m406 : V2 406 = V1 406) : Inv S L V2 D1 (k + 1) b 0 ls := by
  obtain ⟨d1, d2, d3, d4, d5⟩ := gD
  have hct := h.ct
  have f406 : V1 406 = V 406 := g1 406 rfl (by decide) (by omega)
  have c : ∀ a, coreA a = true → a ≠ 70 → a ≠ 406 → ¬ (81 ≤ a ∧ a ≤ 91) → V2 a = V a := fun a ha h1 h2 h3 => by
    have := coreA_iff ha
    rw [m a (by omega) h2 (by omega), g1 a ha h1 h3]
  have s70 : V2 70 = V1 70 := m 70 (by decide) (by decide) (by decide)
  refine h.read (V1 := V1) (p' := V 406) (fun a ha h1 h3 _ => g1 a ha h1 h3) (g70 5 (by decide) (by decide)) gf g76 g405 gS h.wf h.r15 ?_ (d1 103 (by decide)) (fun a _ => by rw [d2]) (by omega) (by omega) (by omega) m m3 m8 m12 mB (by rw [m406, f406]) ?_
  · exact h.law.mov (d1 81 (by decide)) (fun a ha => c a (core_l ha) (by omega) (by omega) (by omega)) (fun a _ _ => by rw [d2]) (by omega) rfl id
  · refine h.past.mov (by rw [s70]; exact g70 7 (by decide) (by decide)) (by rw [s70]; exact g8) (by rw [m6, g405]) (fun a h1 h2 => c a (core_s (by omega)) (by omega) (by omega) (by omega)) (c 409 rfl (by decide) (by decide) (by omega)) (by rw [m406, f406]) (by rw [m406, f406]) (fun a ha => d1 a (by omega))
theorem WF.texts {p : Rw} (hW : WF p) {z : Int} (hz : 0 ≤ z ∧ z ≤ 12) : WF (rup p 0 z) := by
  have r4 : 0 ≤ p 4 ∧ p 4 ≤ 5 := hW.2.1
  have r3 : 0 ≤ p 3 ∧ p 3 ≤ 5 := hW.1
  obtain ⟨g1, g2, g3, g4, g5, g6, g7, g8, g9, g10, g11, g12, g13, g14, g15, g16⟩ := hW
  have o : ∀ j, 1 ≤ j → rup p 0 z j = p j := fun j hj => rup_n (by omega)
  unfold WF
  rw [o 3 (by omega), o 4 (by omega), rup_a, o 1 (by omega), o 5 (by omega), o 6 (by omega), o 7 (by omega), o 8 (by omega), o 9 (by omega), o 10 (by omega), o 11 (by omega), o 12 (by omega), o 13 (by omega), o 14 (by omega)]
  refine ⟨g1, g2, g3, g4, g5, g6, g7, g8, g9, hz, g11, fun r hr => ?_, fun t ht => ?_, fun t u ht hu => ?_, fun r q hr hq => ?_, ?_⟩
  · have := g12 r hr
    unfold rW rD rS rR at *
    rw [o _ (by omega), o _ (by omega), o _ (by omega)]
    exact ⟨this.1, this.2.1, fun w hw => by rw [o _ (by omega)]; exact this.2.2.1 w hw, this.2.2.2⟩
  · have := g13 t ht
    unfold tP_ tW_ tL_ at *
    rw [o _ (by omega), o _ (by omega), o _ (by omega)]
    exact this
  · have := g14 t u ht hu
    unfold tL_ at *
    rw [o _ (by omega), o _ (by omega)]
    exact this
  · have := g15 r q hr hq
    unfold dO_ at *
    rw [o _ (by omega), o _ (by omega)]
    exact this
  · rcases g16 with g | g
    · exact Or.inl g
    · right
      unfold rW rD at *
      rw [o _ (by omega), o _ (by omega)]
      exact g
theorem op_2 (h : Inv S L V D k b n ls) (hN : NX S L d k Q i4) : RY d 6 0 [vr 70, vr 420, vr 0] [] V D (yback d 381 375 [vr 1, vr 70, vr 405, vr 420, vi i4, v5, v6] [] Q) := by
  have hct := h.ct
  obtain ⟨t1, t2, t3, t4, t5, t6⟩ := h.tp
  obtain ⟨m, rfl⟩ : ∃ m : Nat, n = (m : Int) := ⟨n.toNat, by omega⟩
  refine u_6_0 (ca_house (m := m) (b := b) h.st h.wf h.l81 t4 (by omega) t1 h.ws ?_)
  intro N T hTb hT
  -- what the class leaves is enough for the model
  have mid : ∀ (V1 : xF) (D1 : yD) (f c : Int), HouC V V1 f c → CorD D D1 → V1 406 = V 406 ∧ Ws V1 ∧ Bv V1 ∧ WF (V1 406) ∧ V1 405 8 = (m : Int) ∧ (∀ k, k < 400 → V1 410 k = b k) := by
    intro V1 D1 f c hH hD
    obtain ⟨g1, g2, g3, g4, g5, g6⟩ := hH
    have e406 : V1 406 = V 406 := g1 406 rfl (by decide) (by omega)
    refine ⟨e406, h.ws.mov fun a ha => g1 a (core_lt (by omega)) (by omega) (by omega), by unfold Bv; rw [g6]; exact h.bv, by rw [e406]; exact h.wf, by rw [g6]; exact t5, fun j hj => by rw [g1 410 rfl (by decide) (by omega)]; exact t2 j hj⟩
  have hok := hHouse_ok hT h.wf
  obtain ⟨⟨e, o⟩, hr⟩ : ∃ r, r = hHouse T N (V 406) := ⟨_, rfl⟩
  rw [← hr] at hok ⊢
  cases o with
  | none =>
    intro V1 D1 hH hS hD
    obtain ⟨e406, w1, w2, w3, w4, w5⟩ := mid V1 D1 _ _ hH hD
    show RY d 6 11 _ [vr 0] V1 D1 _
    refine u_6_11 ?_
    show RY d 381 375 [vr 1, vr 70, vr 405, vr 420, vi i4, v5, v6] [vi 1] V1 D1 Q
    refine u_381_375 (ma_house (m := m) (N := N) (T := T) w4 (by omega) w5 hTb hT w1 w2 w3 ?_)
    rw [e406, ← hr]
    intro V2 z0 hR z6
    obtain ⟨g1, g2, g3, g4, g5, g6⟩ := hH
    obtain ⟨q1, q2, q3, q4, q5, q6⟩ := hR
    show RY d 381 381 [vr 1, vr 70, vr 405, vr 420, vi i4, vi 1, v6] [vi 0] V2 D1 Q
    have hf := h.readF (V1 := V1) (V2 := V2) hS g1 g2 g3 g4 g5 g6 hD q1 q2 q3 q4 q5 q6 (by rw [z6, e406])
    exact u_381_381 ⟨fun _ => ⟨fun _ => hN _ _ _ _ _ _ _ hf, fun hx => absurd hx (by decide)⟩, fun hne => absurd z0 hne⟩
  | some q =>
    have hok : e = N ∧ WF q ∧ keepR (V 406) q := hok
    obtain ⟨_, wq, kq0, kq1, kq2, kq15, kq⟩ := hok
    have h0 := h.wf.2.2.2.2.2.2.2.2.2.1
    refine ⟨fun hlt V1 D1 hH hS hD => ?_, fun hge V1 D1 hH hS hD => ?_⟩
    · obtain ⟨e406, w1, w2, w3, w4, w5⟩ := mid V1 D1 _ _ hH hD
      show RY d 6 6 _ [vi (V 406 0 + 1), vi 0, vr 420] V1 D1 _
      refine u_6_6 ⟨⟨by decide, by decide⟩, fun D2 hD2 => ?_⟩
      have hD' : CorD D D2 := by rw [hD2]; exact hD
      show RY d 381 375 [vr 1, vr 70, vr 405, vr 420, vi i4, v5, v6] [vi 0] V1 D2 Q
      refine u_381_375 (ma_house (m := m) (N := N) (T := T) w4 (by omega) w5 hTb hT w1 w2 w3 ?_)
      rw [e406, ← hr]
      refine ⟨fun _ => ?_, fun h12 => absurd hlt (by omega)⟩
      intro V2 z0 hR z6
      obtain ⟨g1, g2, g3, g4, g5, g6⟩ := hH
      obtain ⟨q1, q2, q3, q4, q5, q6⟩ := hR
      obtain ⟨d1, d2, d3, d4, d5⟩ := id hD'
      show RY d 381 381 [vr 1, vr 70, vr 405, vr 420, vi i4, vi 0, v6] [vi (V 406 0 + 1)] V2 D2 Q
      have wr0 : WF (rup q 0 (V 406 0 + 1)) := wq.texts (by omega)
      have c : ∀ a, coreA a = true → a ≠ 70 → a ≠ 406 → ¬ (81 ≤ a ∧ a ≤ 91) → V2 a = V a := fun a ha h1 h2 h3 => by
        have := coreA_iff ha
        rw [q1 a (by omega) h2 (by omega), g1 a ha h1 h3]
      have s70 : V2 70 = V1 70 := q1 70 (by decide) (by decide) (by decide)
      have hf : Inv S L V2 D2 (k + 1) b 0 ls := by
        refine h.read (V1 := V1) (p' := rup q 0 (V 406 0 + 1)) (fun a ha h1 h3 _ => g1 a ha h1 h3) (g2 5 (by decide) (by decide)) g3 g5 g6 hS wr0 (by rw [rup_n (by decide), kq15]; exact h.r15) ?_ (d1 103 (by decide)) (fun a _ => by rw [d2]) (by omega) (by omega) (by omega) q1 q2 q3 q4 q6 z6 (PastR.nil ?_ (by rw [s70]; exact g4) q5)
        · refine h.law.mov (d1 81 (by decide)) (fun a ha => c a (core_l ha) (by omega) (by omega) (by omega)) (fun a _ _ => by rw [d2]) (by omega) (by rw [rup_n (by decide)]; exact kq1) (fun ht => ht.cong (by rw [rup_n (by decide)]; exact kq1) (by rw [rup_n (by decide)]; exact kq2) (fun j hj => by rw [rup_n (by omega)]; exact kq j hj))
        · rw [s70, g2 7 (by decide) (by decide)]; exact h.past.2.2.1
      refine u_381_381 ⟨fun _ => ⟨fun hx => absurd rfl hx, fun _ => ⟨fun _ => hN _ _ _ _ _ _ _ hf, fun hx => absurd ?_ hx⟩⟩, fun hne => absurd z0 hne⟩
      rw [hD2]
      show xcmp (up2 D1.1 420 0 (V 406 0 + 1) 420 0) _ = 0
      rw [up2_at]
      exact xcmp_self _
    · obtain ⟨e406, w1, w2, w3, w4, w5⟩ := mid V1 D1 _ _ hH hD
      show RY d 6 14 _ [vr 0] V1 D1 _
      refine u_6_14 ?_
      show RY d 381 375 [vr 1, vr 70, vr 405, vr 420, vi i4, v5, v6] [vi 2] V1 D1 Q
      refine u_381_375 (ma_house (m := m) (N := N) (T := T) w4 (by omega) w5 hTb hT w1 w2 w3 ?_)
      rw [e406, ← hr]
      refine ⟨fun h12 => absurd (show V 406 0 = 12 by omega) h12, fun _ => ?_⟩
      intro V2 z0 hR z6
      obtain ⟨g1, g2, g3, g4, g5, g6⟩ := hH
      obtain ⟨q1, q2, q3, q4, q5, q6⟩ := hR
      show RY d 381 381 [vr 1, vr 70, vr 405, vr 420, vi i4, vi 2, v6] [vi 0] V2 D1 Q
      have hf := h.readF (V1 := V1) (V2 := V2) hS g1 g2 g3 g4 g5 g6 hD q1 q2 q3 q4 q5 q6 (by rw [z6, e406])
      exact u_381_381 ⟨fun _ => ⟨fun _ => hN _ _ _ _ _ _ _ hf, fun hx => absurd hx (by decide)⟩, fun hne => absurd z0 hne⟩
theorem St.near {V : xF} {s : Nat} {p p' : Rw} (h : St V s p) (he : ∀ k, k < 331 → k ≠ 1 → k ≠ 2 → p' k = p k) : St V s p' := by
  unfold St rW rD rS rR dB_ dO_ tP_ tW_ tL_ at *
  have he' : ∀ k, k < 331 → (k = 0 ∨ 3 ≤ k) → p' k = p k := fun k h1 h2 => he k h1 (by omega) (by omega)
  rw [he' 3 (by omega) (by omega), he' 4 (by omega) (by omega), he' 0 (by omega) (by omega), he' 5 (by omega) (by omega), he' 6 (by omega) (by omega), he' 7 (by omega) (by omega), he' 8 (by omega) (by omega), he' 9 (by omega) (by omega), he' 10 (by omega) (by omega), he' 11 (by omega) (by omega), he' 12 (by omega) (by omega), he' 15 (by omega) (by omega), he' 13 (by omega) (by omega), he' 14 (by omega) (by omega)]
  obtain ⟨g0, g1, g2, g3, g4, g5, g6, g7, g8, g9, g10, g12, g13, g14, g15, g16, g17, g18, g19, g20, g21, g22⟩ := h
  refine ⟨g0, fun r hr => ?_, fun r hr => ?_, fun r w hr hw => ?_, fun r hr => ?_, fun r hr => ?_, g6, fun t ht => ?_, fun t ht => ?_, fun t ht => ?_, g10, g12, g13, g14, g15, g16, g17, g18, g19, g20, g21, fun k hk => ?_⟩
  · rw [he' _ (by omega) (by omega)]; exact g1 r hr
  · rw [he' _ (by omega) (by omega)]; exact g2 r hr
  · rw [he' _ (by omega) (by omega)]; exact g3 r w hr hw
  · rw [he' _ (by omega) (by omega)]; exact g4 r hr
  · rw [he' _ (by omega) (by omega), he' _ (by omega) (by omega), he' _ (by omega) (by omega), he' _ (by omega) (by omega), he' _ (by omega) (by omega)]; exact g5 r hr
  · rw [he' _ (by omega) (by omega)]; exact g7 t ht
  · rw [he' _ (by omega) (by omega)]; exact g8 t ht
  · rw [he' _ (by omega) (by omega)]; exact g9 t ht
  · rw [he' _ (by omega) (by omega)]; exact g22 k hk
theorem lwR_n {p : Rw} {b : Nat → Int} {m l k : Nat} (h1 : k ≠ 1) (h2 : k ≠ 2) (h3 : k < 331) : lwR p b m l k = p k := by unfold lwR; rw [if_neg h1, if_neg h2, if_neg (by omega)]
theorem op_3 (h : Inv S L V D k b n ls) (hd : 30 ≤ d) (hN : NX S L d k Q i4) : RY d 9 0 [vr 70, vr 420, vr 0] [] V D (yback d 381 419 [vr 1, vr 70, vr 405, vr 420, vi i4, v5, v6] [] Q) := by
  have hct := h.ct
  obtain ⟨t1, t2, t3, t4, t5, t6⟩ := h.tp
  obtain ⟨m, rfl⟩ : ∃ m : Nat, n = (m : Int) := ⟨n.toNat, by omega⟩
  refine u_9_0 (ca_law (m := m) (b := b) (by omega) t4 (by omega) t1 h.ws h.ct.1 ?_)
  intro N T hTb hT
  have mid : ∀ (V1 : xF) (f c : Int), (∀ a, coreA a = true → a ≠ 70 → a < 421 → V1 a = V a) → LawC V V1 f c → V1 406 = V 406 ∧ Ws V1 ∧ Bv V1 ∧ V1 405 8 = (m : Int) ∧ (∀ k, k < 400 → V1 410 k = b k) := by
    intro V1 f c g1 hH
    obtain ⟨g2, g3, g4, g5, g6⟩ := hH
    refine ⟨g1 406 rfl (by decide) (by omega), h.ws.mov fun a ha => g1 a (core_lt (by omega)) (by omega) (by omega), by unfold Bv; rw [g6]; exact h.bv, by rw [g6]; exact t5, fun j hj => by rw [g1 410 rfl (by decide) (by omega)]; exact t2 j hj⟩
  have hok := pLaw_ok hT (show m ≤ 400 by omega)
  obtain ⟨⟨e, o⟩, hr⟩ : ∃ r, r = pLaw T N := ⟨_, rfl⟩
  rw [← hr] at hok ⊢
  cases o with
  | none =>
    intro V1 g1 hH
    obtain ⟨e406, w1, w2, w4, w5⟩ := mid V1 _ _ (fun a h1 h2 _ => g1 a h1 h2) hH
    show RY d 9 11 _ [vr 0] V1 (excD D) _
    refine u_9_11 ?_
    show RY d 381 419 [vr 1, vr 70, vr 405, vr 420, vi i4, v5, v6] [vi 1] V1 (excD D) Q
    refine u_381_419 (ma_law (m := m) (N := N) (T := T) w4 (by omega) w5 hTb hT w1 w2 hd ?_)
    rw [← hr]
    intro V2 z0 hR z6
    obtain ⟨g2, g3, g4, g5, g6⟩ := hH
    obtain ⟨q1, q2, q3, q4, q5, q6⟩ := hR
    show RY d 381 425 [vr 1, vr 70, vr 405, vr 420, vi i4, vi 1, v6] [vi 0] V2 (excD D) Q
    have hf := h.readF (V1 := V1) (V2 := V2) (h.st.keep fun i hi => g1 _ (core_s (by omega)) (by omega)) (fun a h1 h2 _ => g1 a h1 h2) g2 g3 g4 g5 g6 CorD.exc (fun a h1 h2 _ => q1 a h1 h2) q2 q3 q4 q5 q6 z6
    exact u_381_425 ⟨fun _ => ⟨fun _ => hN _ _ _ _ _ _ _ hf, fun hx => absurd hx (by decide)⟩, fun hne => absurd z0 hne⟩
  | some ls' =>
    have hok : (∀ x ∈ ls', lnOK x) ∧ ls'.length ≤ 12 ∧ (ls'.map (fun x => x.2.2.length)).sum ≤ 800 := hok
    intro V1 D1 A hA hAe g1 hH hL hA0 l1 l2 l3 l4 l5 l6
    obtain ⟨e406, w1, w2, w4, w5⟩ := mid V1 _ _ (fun a h1 h2 h3 => g1 a h1 h2 (by omega)) hH
    show RY d 9 6 _ [vi (ls'.length : Int), vi 0, vr 420] V1 D1 _
    refine u_9_6 ⟨⟨by decide, by decide⟩, fun D2 hD2 => ?_⟩
    have e2 : D2.2 = D1.2 := by rw [hD2]
    show RY d 381 419 [vr 1, vr 70, vr 405, vr 420, vi i4, v5, v6] [vi 0] V1 D2 Q
    refine u_381_419 (ma_law (m := m) (N := N) (T := T) w4 (by omega) w5 hTb hT w1 w2 hd ?_)
    rw [← hr]
    intro V2 z0 hR z6
    obtain ⟨g2, g3, g4, g5, g6⟩ := hH
    obtain ⟨q1, q2, q3, q4, q5, q6⟩ := hR
    rw [e406] at z6
    show RY d 381 425 [vr 1, vr 70, vr 405, vr 420, vi i4, vi 0, v6] [vi (ls'.length : Int)] V2 D2 Q
    have s70 : V2 70 = V1 70 := q1 70 (by decide) (by decide)
    have hf : Inv S L V2 D2 (k + 1) b 0 ls' := by
      have d81 : D2.2.1 81 = A := by rw [e2, l2, up1_at]
      refine h.read (V1 := V1) (p' := lwR (V 406) b m ls'.length) (fun a ha h1 _ h4 => g1 a ha h1 (by omega)) (g2 5 (by decide) (by decide)) g3 g5 g6 ?_ (h.wf.lw hok.2.1) (by rw [lwR_n (by decide) (by decide) (by decide)]; exact h.r15) ?_ (by rw [e2, l2, up1_n (by decide)]) (fun a ha => by rw [e2]; exact l3 a (by omega)) (by rw [e2]; omega) (by rw [e2]; omega) (by rw [e2]; omega) (fun a h1 h2 _ => q1 a h1 h2) q2 q3 q4 q6 z6 (PastR.nil ?_ (by rw [s70]; exact g4) q5)
      · exact (h.st.keep fun i hi => g1 _ (core_s (by omega)) (by omega) (by omega)).near fun j h1 h2 h3 => lwR_n h2 h3 h1
      · unfold LawI
        rw [d81, e2]
        refine ⟨?_, TXT_lw hTb (by omega) hT hr.symm, ?_, Or.inr ⟨hA, by omega⟩⟩
        · have hL2 : LO V1 D2 A ls' := by
            rw [hD2]
            exact hL
          exact hL2.cor fun a ha => q1 a (by omega) (by omega)
        · rw [q1 A (by omega) (by omega), hA0]
          unfold lwR
          rw [if_pos rfl]
      · rw [s70, g2 7 (by decide) (by decide)]; exact h.past.2.2.1
    refine u_381_425 ⟨fun _ => ⟨fun hx => absurd rfl hx, fun _ => ⟨fun _ => hN _ _ _ _ _ _ _ hf, fun hx => absurd ?_ hx⟩⟩, fun hne => absurd z0 hne⟩
    rw [hD2]
    show xcmp (up2 D1.1 420 0 (ls'.length : Int) 420 0) _ = 0
    rw [up2_at]
    exact xcmp_self _
end SPEC
