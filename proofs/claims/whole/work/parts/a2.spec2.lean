/-! ===== THE LOOP'S OTHER CALLS ===== -/
theorem TXT.cg {q p : Rw} {ls : List Ln} (h : TXT p ls) (h1 : q 1 = p 1) (h2 : q 2 = p 2) (h3 : ∀ k, 331 ≤ k → k < 731 → q k = p k) : TXT q ls := by
  obtain ⟨T, m, N, j, a1, a2, a3, a4, a5⟩ := h
  exact ⟨T, m, N, j, a1, a2, by rw [h1, h2]; exact a3, fun i hi => by rw [h3 _ (by omega) (by omega)]; exact a4 i hi, a5⟩
def FedB (V V' : xF) (n m : Nat) (B : Nat → Int) : Prop := V' 405 8 = ((n + m : Nat) : Int) ∧ (∀ k, V' 410 k = fed (V 410) n m B k) ∧ (∀ a, a ≠ 405 → a ≠ 410 → V' a = V a) ∧ V' 405 3 = V 405 3 ∧ V' 405 6 = V 405 6 ∧ V' 405 12 = V 405 12 ∧ V' 405 15 = V 405 15 ∧ V' 405 16 = V 405 16
section FEEDB
variable {d : Nat} {V : xF} {D : yD} {Q : xRes → xF → yD → Prop}
theorem mb_feed {a b c e f : Int} {n : Nat} (hn : V 405 8 = (n : Int)) (hn4 : n ≤ 400)
    (h1 : n + 20 ≤ 400 → ∀ V', FedB V V' n 20 (fun j => byt (arg5 a b c e f j) j) → Q (.inl (some (vi (((n + 20 : Nat)) : Int)))) V' D) (h2 : 400 < n + 20 → ∀ V', Cor V V' → Q (.inl (some (vi (-1)))) V' D) :
    RY d 3 0 [vr 405, vi a, vi b, vi c, vi e, vi f, vr 0, vr 0] [] V D Q := by
  refine u_3_0 ?_
  rintro V1 hV1
  have e8 : V1 405 8 = (n : Int) := by rw [hV1, up2_ni (by decide)]; exact hn
  rw [e8, wr_id (by omega) (by omega)]
  refine ⟨fun h5 => ?_, fun h5 => h2 (by omega) V1 (by rw [hV1]; exact v405.2.2)⟩
  obtain ⟨B, hB⟩ : ∃ B : Nat → Int, B = fun j => byt (arg5 a b c e f j) j := ⟨_, rfl⟩
  rw [← hB] at h1
  have F0 : FedB V V1 n 0 B := by
    subst hV1
    exact ⟨by rw [e8]; omega, fun k => by unfold fed; rw [if_neg (by omega), up2_na (by decide)], fun a h1 h2 => up2_na h1, up2_ni (by decide), up2_ni (by decide), up2_ni (by decide), up2_ni (by decide), up2_ni (by decide)⟩
  clear hV1 e8
  have main : ∀ (k m : Nat) (V2 : xF) (v7 : xV), m + k = 20 → FedB V V2 n m B → RY d 3 23 [vr 405, vi a, vi b, vi c, vi e, vi f, vi (m : Int), v7] [] V2 D Q := by
    intro k
    induction k with
    | zero =>
      intro m V2 v7 hm hF
      have : m = 20 := by omega
      subst this
      refine u_3_23 ⟨fun _ => ?_, fun h5 => by omega⟩
      rw [hF.1]
      exact h1 (by omega) V2 hF
    | succ k ih =>
      intro m V2 v7 hm hF
      obtain ⟨f1, f2, f3, f4, f5, f6, f7, f8⟩ := hF
      have et : (m : Int).tmod 4 = ((m % 4 : Nat) : Int) := by rw [tmod_nn (by omega)]; omega
      have ew : wr (24 - wr (8 * ((m : Int).tmod 4))) = 24 - 8 * ((m % 4 : Nat) : Int) := by
        rw [et, wr_id (x := 8 * ((m % 4 : Nat) : Int)) (by omega) (by omega), wr_id (by omega) (by omega)]
      have stp : ∀ (x : Int) (v : xV), arg5 a b c e f m = x → ((0 : Int) ≤ V2 405 8 ∧ V2 405 8 < (400 : Int)) ∧ (∀ V1 : xF, V1 = up2 V2 410 ((V2 405 8).toNat) (xand (xushr x (24 - 8 * ((m % 4 : Nat) : Int))) 255) → ∀ V3 : xF, V3 = up2 V1 405 8 (wr ((V1 405 8) + 1)) → RY d 3 23 [vr 405, vi a, vi b, vi c, vi e, vi f, vi (((m + 1 : Nat)) : Int), v] [] V3 D Q) := by
        intro x v hx
        refine ⟨by omega, ?_⟩
        rintro V3 rfl V4 rfl
        rw [up2_na (by decide), f1, nn_toNat, (ushr_shr x (by omega)).1, wr_id (by omega) (by omega)]
        have hBm : xand (xshr x (24 - 8 * ((m % 4 : Nat) : Int))) 255 = B m := by rw [hB]; dsimp only; rw [hx]; rfl
        rw [hBm]
        refine ih (m + 1) _ v (by omega) ⟨by rw [up2_at]; omega, fun k => ?_, fun a h1 h2 => ?_, ?_, ?_, ?_, ?_, ?_⟩
        · rw [up2_na (by decide)]; exact fed_up f2 k
        · rw [up2_na h1, up2_na h2]; exact f3 a h1 h2
        · rw [up2_ni (by decide), up2_na (by decide)]; exact f4
        · rw [up2_ni (by decide), up2_na (by decide)]; exact f5
        · rw [up2_ni (by decide), up2_na (by decide)]; exact f6
        · rw [up2_ni (by decide), up2_na (by decide)]; exact f7
        · rw [up2_ni (by decide), up2_na (by decide)]; exact f8
      refine u_3_23 ⟨fun h6 => by omega, fun _ => ?_⟩
      rw [ew, wr_id (x := (m : Int) + 1) (by omega) (by omega), show (m : Int) + 1 = (((m + 1 : Nat)) : Int) by omega]
      refine ⟨fun h6 => ⟨fun h7 => ⟨fun h8 => ⟨fun h9 => ?_, fun h9 => ?_⟩, fun h8 => ?_⟩, fun h7 => ?_⟩, fun h6 => ?_⟩
      · exact stp f _ (by unfold arg5; rw [if_neg (by omega), if_neg (by omega), if_neg (by omega), if_neg (by omega)])
      · exact stp e _ (by unfold arg5; rw [if_neg (by omega), if_neg (by omega), if_neg (by omega), if_pos (by omega)])
      · exact stp c _ (by unfold arg5; rw [if_neg (by omega), if_neg (by omega), if_pos (by omega)])
      · exact stp b _ (by unfold arg5; rw [if_neg (by omega), if_pos (by omega)])
      · exact stp a _ (by unfold arg5; rw [if_pos (by omega)])
  exact main 20 0 V1 _ (by omega) F0
end FEEDB
section SPEC2
variable {S : Nat → Int} {L d : Nat} {V : xF} {D : yD} {k : Nat} {b : Nat → Int} {n i4 : Int} {ls : List Ln} {Q : xRes → xF → yD → Prop} {v5 v6 : xV}
theorem op_0 (h : Inv S L V D k b n ls) (hB : BB i4 L) (hN : NX S L d k Q i4) : RY d 2 0 [vr 70, vi (V 1 ((wr (i4 + 1)).toNat)), vi (V 1 ((wr (i4 + 2)).toNat)), vi (V 1 ((wr (i4 + 3)).toNat)), vi (V 1 ((wr (i4 + 4)).toNat)), vi (V 1 ((wr (i4 + 5)).toNat))] [] V D (yback d 381 306 [vr 1, vr 70, vr 405, vr 420, vi i4, v5, v6] [] Q) := by
  obtain ⟨t1, t2, t3, t4, t5, t6⟩ := h.tp
  obtain ⟨m, rfl⟩ : ∃ m : Nat, n = (m : Int) := ⟨n.toNat, by omega⟩
  have ek := h.k1
  refine ca_feed (n := m) t4 (by omega) (fun hle V1 hF => ?_) (fun hgt => ?_)
  · obtain ⟨f1, f2, f3, f4⟩ := hF
    have e1 : V1 1 = V 1 := f3 1 (by decide) (by decide)
    have e405 : V1 405 = V 405 := f3 405 (by decide) (by decide)
    show RY d 381 306 [vr 1, vr 70, vr 405, vr 420, vi i4, v5, v6] [vi ((m + 20 : Nat) : Int)] V1 D Q
    refine u_381_306 ⟨kk21 ek, kkB ek hB 1 (by decide) (by decide), kk21 ek, kkB ek hB 2 (by decide) (by decide), kk21 ek, kkB ek hB 3 (by decide) (by decide), kk21 ek, kkB ek hB 4 (by decide) (by decide), kk21 ek, kkB ek hB 5 (by decide) (by decide), ?_⟩
    rw [e1]
    refine mb_feed (n := m) (by rw [e405]; exact t5) (by omega) (fun _ V2 hG => ?_) (fun hgt => absurd hle (by omega))
    obtain ⟨g1, g2, g3, g4, g5, g6, g7, g8⟩ := hG
    show RY d 381 340 [vr 1, vr 70, vr 405, vr 420, vi i4, v5, v6] [vi ((m + 20 : Nat) : Int), vi ((m + 20 : Nat) : Int)] V2 D Q
    refine u_381_340 ⟨fun _ => hN _ _ (fed b m 20 (fun j => byt (arg5 (V 1 ((wr (i4 + 1)).toNat)) (V 1 ((wr (i4 + 2)).toNat)) (V 1 ((wr (i4 + 3)).toNat)) (V 1 ((wr (i4 + 4)).toNat)) (V 1 ((wr (i4 + 5)).toNat)) j) j)) (((m + 20 : Nat)) : Int) _ _ _ (h.same ⟨fun j hj => ?_, fun j hj => ?_, fun j hj => ?_, ?_, g1, by omega, by omega⟩ (fun a ha h7 h4 => ?_) (by rw [g4, e405]) (by rw [g5, e405]) (by rw [g6, e405]) ?_ CorD.rf), fun hne => absurd rfl hne⟩
    · rw [g3 77 (by decide) (by decide), f2 j]
      unfold fed
      by_cases e : m ≤ j ∧ j < m + 20
      · rw [if_pos e, if_pos e]
      · rw [if_neg e, if_neg e]; exact t1 j hj
    · rw [g2 j]
      unfold fed
      by_cases e : m ≤ j ∧ j < m + 20
      · rw [if_pos e, if_pos e]
      · rw [if_neg e, if_neg e, f3 410 (by decide) (by decide)]; exact t2 j hj
    · unfold fed
      by_cases e : m ≤ j ∧ j < m + 20
      · rw [if_pos e]; exact byt_b _ _
      · rw [if_neg e]; exact t3 j hj
    · rw [g3 76 (by decide) (by decide)]; exact f1
    · have := coreA_iff ha
      rw [g3 a (by omega) h4, f3 a (by omega) h7]
    · unfold Bv
      rw [g7, g8, e405]
      exact h.bv
  · show RY d 381 306 [vr 1, vr 70, vr 405, vr 420, vi i4, v5, v6] [vi (-1)] V D Q
    refine u_381_306 ⟨kk21 ek, kkB ek hB 1 (by decide) (by decide), kk21 ek, kkB ek hB 2 (by decide) (by decide), kk21 ek, kkB ek hB 3 (by decide) (by decide), kk21 ek, kkB ek hB 4 (by decide) (by decide), kk21 ek, kkB ek hB 5 (by decide) (by decide), ?_⟩
    refine mb_feed (n := m) t5 (by omega) (fun hle => absurd hgt (by omega)) (fun _ V2 hC => ?_)
    show RY d 381 340 [vr 1, vr 70, vr 405, vr 420, vi i4, v5, v6] [vi (-1), vi (-1)] V2 D Q
    exact u_381_340 ⟨fun _ => hN _ _ _ _ _ _ _ (h.cor hC CorD.rf), fun hne => absurd rfl hne⟩
theorem op_1 (h : Inv S L V D k b n ls) (hB : BB i4 L) (hN : NX S L d k Q i4) : RY d 4 0 [vr 70, vi (V 1 ((wr (i4 + 1)).toNat))] [] V D (yback d 381 355 [vr 1, vr 70, vr 405, vr 420, vi i4, v5, v6] [] Q) := by
  have hT := h.tp
  have ek := h.k1
  obtain ⟨t1, t2, t3, t4, t5, t6⟩ := id hT
  obtain ⟨z, hz⟩ : ∃ z, z = V 1 ((wr (i4 + 1)).toNat) := ⟨_, rfl⟩
  rw [← hz]
  refine ca_end hT ?_
  intro V1 hV1
  show RY d 381 355 [vr 1, vr 70, vr 405, vr 420, vi i4, v5, v6] [vi (if 0 ≤ z ∧ z ≤ n then 1 else 0)] V1 D Q
  refine u_381_355 ⟨kk21 ek, kkB ek hB 1 (by decide) (by decide), fun V2 hV2 => ?_⟩
  by_cases hk : 0 ≤ z ∧ z ≤ n
  · rw [if_pos hk] at hV1 ⊢
    have e1 : V1 1 = V 1 := by rw [hV1, up2_na (by decide)]
    have e8 : V2 405 8 = n := by rw [hV2, up2_ni (by decide), hV1, up2_na (by decide)]; exact t5
    have ey : yr_124 z 0 (V2 405 8) V2 D = 1 := by unfold yr_124; rw [if_neg (by omega), if_neg (by omega)]
    rw [e1, ← hz, ey]
    refine ⟨fun _ V3 hV3 => ⟨fun _ => hN _ _ b z _ _ _ (h.same ⟨fun j hj => ?_, fun j hj => ?_, t3, ?_, ?_, by omega, by omega⟩ (fun a ha h7 h4 => ?_) ?_ ?_ ?_ ?_ CorD.rf), fun hne => absurd rfl hne⟩, fun h0 => absurd h0 (by decide)⟩
    · rw [hV3, up2_na (by decide), hV2, up2_na (by decide), hV1, up2_na (by decide)]; exact t1 j hj
    · rw [hV3, up2_na (by decide), hV2, up2_na (by decide), hV1, up2_na (by decide)]; exact t2 j hj
    · rw [hV3, up2_na (by decide), hV2, up2_na (by decide), hV1, up2_at]
    · rw [hV3, up2_at]
    · have := coreA_iff ha
      rw [hV3, up2_na (by omega), hV2, up2_na (by omega), hV1, up2_na (by omega)]
    · rw [hV3, up2_ni (by decide), hV2, up2_ni (by decide), hV1, up2_na (by decide)]
    · rw [hV3, up2_ni (by decide), hV2, up2_ni (by decide), hV1, up2_na (by decide)]
    · rw [hV3, up2_ni (by decide), hV2, up2_ni (by decide), hV1, up2_na (by decide)]
    · unfold Bv
      rw [hV3, up2_ni (by decide), up2_ni (by decide), hV2, up2_ni (by decide), up2_ni (by decide), hV1, up2_na (by decide)]
      exact h.bv
  · rw [if_neg hk] at hV1 ⊢
    have e8 : V2 405 8 = n := by rw [hV2, up2_ni (by decide), hV1]; exact t5
    have ey : yr_124 z 0 (V2 405 8) V2 D = 0 := by
      unfold yr_124
      by_cases h0 : z < 0
      · rw [if_pos h0]
      · rw [if_neg h0, if_pos (by omega)]
    rw [hV1, ← hz, ey]
    refine ⟨fun hx => absurd rfl hx, fun _ => ⟨fun _ => hN _ _ _ _ _ _ _ (h.cor ?_ CorD.rf), fun hne => absurd rfl hne⟩⟩
    rw [hV2, hV1]
    exact v405.2.2
theorem op_4 (h : Inv S L V D k b n ls) (hN : NX S L d k Q i4) : ∀ V1 : xF, V1 = up2 V 405 0 0 → (((yr_11 V D) = (V1 405 12) → RY d 381 23 [vr 1, vr 70, vr 405, vr 420, vi (wr (i4 + 6)), v5, v6] [] V1 D Q) ∧ ((yr_11 V D) ≠ (V1 405 12) → Q (.inl (some (vi 0))) V1 D)) := by
  intro V1 hV1
  refine ⟨fun _ => hN _ _ _ _ _ _ _ (h.cor (by rw [hV1]; exact v405.2.2) CorD.rf), fun hne => absurd ?_ hne⟩
  show V 70 1 = V1 405 12
  rw [hV1, up2_ni (by decide)]
  exact h.fl.1
theorem op_49 (h : Inv S L V D k b n ls) (hB : BB i4 L) (h32 : ∀ j, r32 (V 1 j)) (hN : NX S L d k Q i4) : ∀ V2 : xF, V2 = up2 V 81 19 (V 1 ((wr (i4 + 1)).toNat)) → ((20 ≤ (yK D.2.2.1 1).1 ∧ (yK D.2.2.1 1).1 ≤ 21) ∧ ((0 : Int) ≤ wr (i4 + 1) ∧ wr (i4 + 1) < ((yK D.2.2.1 1).2 : Int)) ∧ (∀ V3 : xF, V3 = up2 V2 405 0 0 → ∀ V4 : xF, V4 = up2 V3 406 15 (V2 1 ((wr (i4 + 1)).toNat)) → (((V 81 19) = (V3 406 15) → RY d 381 23 [vr 1, vr 70, vr 405, vr 420, vi (wr (i4 + 6)), v5, v6] [] V4 D Q) ∧ ((V 81 19) ≠ (V3 406 15) → Q (.inl (some (vi 0))) V4 D)))) := by
  intro V2 hV2
  have hct := h.ct
  have ek := h.k1
  refine ⟨kk21 ek, kkB ek hB 1 (by decide) (by decide), ?_⟩
  intro V3 hV3 V4 hV4
  have r := h32 ((wr (i4 + 1)).toNat)
  obtain ⟨z, hz⟩ : ∃ z, z = V 1 ((wr (i4 + 1)).toNat) := ⟨_, rfl⟩
  rw [hV2, up2_na (by decide), ← hz] at hV4
  rw [← hz] at hV2 r
  have s19 : V 81 19 = V 406 15 := h.st.2.2.2.2.2.2.2.2.2.2.2.2.2.2.2.2.2.2.1
  refine ⟨fun _ => hN _ _ b n ls _ _ ?_, fun hne => absurd (by rw [hV3, up2_na (by decide), hV2, up2_na (by decide)]; exact s19) hne⟩
  have o : ∀ a, a ≠ 81 → a ≠ 405 → a ≠ 406 → V4 a = V a := fun a h1 h2 h3 => by rw [hV4, up2_na h3, hV3, up2_na h2, hV2, up2_na h1]
  have e5 : ∀ j, j ≠ 0 → V4 405 j = V 405 j := fun j hj => by rw [hV4, up2_na (by decide), hV3, up2_ni hj, hV2, up2_na (by decide)]
  have e406 : V4 406 = rup (V 406) 15 z := by
    funext j
    rw [hV4, up2_a, hV3, up2_na (by decide), hV2, up2_na (by decide)]
    rfl
  have hlo : ∀ a, a = 71 ∨ 421 ≤ a ∧ a < D.2.2.2.1 → V4 a = V a := fun a ha => o a (by omega) (by omega) (by omega)
  refine ⟨h.tp.mov (o 77 (by decide) (by decide) (by decide)) (o 410 (by decide) (by decide) (by decide)) (by rw [o 76 (by decide) (by decide) (by decide)]) (e5 8 (by decide)), ⟨by rw [o 2 (by decide) (by decide) (by decide)]; exact h.v2, h.ws.mov fun a ha => o a (by omega) (by omega) (by omega), ?_⟩, ?_, ?_, ?_, ?_, ⟨h.l103, ?_⟩, ⟨by omega, by omega, by omega⟩, by rw [o 1 (by decide) (by decide) (by decide)]; exact h.v1, h.k1⟩
  · unfold Bv
    rw [e5 15 (by decide), e5 16 (by decide)]
    exact h.bv
  · rw [e406]
    refine ⟨(st_seed (z := z) h.st).keep fun i hi => ?_, h.wf.seed, by rw [rup_a]; exact r⟩
    rw [hV4, up2_na (by omega), hV3, up2_na (by omega), hV2]
  · rw [e406]
    exact h.law.mov rfl hlo (fun _ _ _ => rfl) (Nat.le_refl _) (rup_n (by decide)) (fun ht => ht.cong (rup_n (by decide)) (rup_n (by decide)) (fun j hj => rup_n (by omega)))
  · refine h.past.mov (by rw [o 70 (by decide) (by decide) (by decide)]) (by rw [o 70 (by decide) (by decide) (by decide)]) (e5 6 (by decide)) (fun a h1 h2 => o a (by omega) (by omega) (by omega)) (o 409 (by decide) (by decide) (by decide)) (by rw [e406, rup_n (by decide)]) (by rw [e406, rup_n (by decide)]) (fun _ _ => rfl)
  · rw [o 70 (by decide) (by decide) (by decide), e5 12 (by decide), e5 3 (by decide)]
    exact h.fl
  · exact h.kep.mov (e5 3 (by decide)) (fun i hi => o _ (by omega) (by omega) (by omega)) (o 407 (by decide) (by decide) (by decide)) rfl hlo (fun _ _ _ => rfl) (Nat.le_refl _)
theorem op_53 (h : Inv S L V D k b n ls) (hB : BB i4 L) (hN : NX S L d k Q i4) : RY d 109 0 [vr 70, vi (V 1 ((wr (i4 + 1)).toNat))] [] V D (yback d 381 3213 [vr 1, vr 70, vr 405, vr 420, vi i4, v5, v6] [] Q) := by
  have ek := h.k1
  refine ca_count h.st h.hl h.past.1 ?_
  show RY d 381 3213 [vr 1, vr 70, vr 405, vr 420, vi i4, v5, v6] [vi (countF (V 406) (V 405 6) (V 1 ((wr (i4 + 1)).toNat)))] V D Q
  refine u_381_3213 ⟨kk21 ek, kkB ek hB 1 (by decide) (by decide), ma_count h.wf ?_⟩
  intro V2 h0 hC
  show RY d 381 3223 [vr 1, vr 70, vr 405, vr 420, vi i4, v5, v6] [vi (countF (V 406) (V 405 6) (V 1 ((wr (i4 + 1)).toNat))), vi (countF (V 406) (V 405 6) (V 1 ((wr (i4 + 1)).toNat)))] V2 D Q
  exact u_381_3223 ⟨fun _ => hN _ _ _ _ _ _ _ (h.cor hC CorD.rf), fun hne => absurd rfl hne⟩
theorem op_51 (h : Inv S L V D k b n ls) (hN : NX S L d k Q i4) : RY d 105 0 [vr 70] [] V D (yback d 381 3183 [vr 1, vr 70, vr 405, vr 420, vi i4, v5, v6] [] Q) := by
  have hct := h.ct
  refine ca_image h.l81 ?_
  intro V1 hC
  obtain ⟨D1, hD1⟩ : ∃ D1 : yD, D1 = (D.1, up1 D.2.1 103 (D.2.1 81), D.2.2) := ⟨_, rfl⟩
  rw [← hD1]
  show RY d 381 3183 [vr 1, vr 70, vr 405, vr 420, vi i4, v5, v6] [] (up2 V1 70 5 1) D1 Q
  refine u_381_3183 (ma_image ?_)
  intro V2 m3 mo mF m407
  show RY d 381 3187 [vr 1, vr 70, vr 405, vr 420, vi i4, v5, v6] [] V2 D1 Q
  refine u_381_3187 (hN _ _ b n ls _ _ ?_)
  have o : ∀ a, a ≠ 70 → a ≠ 405 → a ≠ 407 → (a < 103 ∨ 113 < a) → V2 a = V a := fun a h1 h2 h3 h4 => by rw [mF a (by simp; omega), up2_na h1, hC.2 a (by omega)]
  have e5 : ∀ j, j ≠ 0 → j ≠ 3 → V2 405 j = V 405 j := fun j h1 h2 => by rw [mo j h1 h2, up2_na (by decide), hC.2 405 (by omega)]
  have d81 : D1.2.1 81 = D.2.1 81 := by rw [hD1]; exact up1_n (f := D.2.1) (a := 103) (b := 81) (z := D.2.1 81) (by decide)
  have d103 : D1.2.1 103 = D.2.1 81 := by rw [hD1]; exact up1_at (f := D.2.1) (a := 103) (z := D.2.1 81)
  have d2 : D1.2.2 = D.2.2 := by rw [hD1]
  have dS : ∀ a, a ≠ 103 → D1.2.1 a = D.2.1 a := fun a ha => by rw [hD1]; exact up1_n ha
  have e406 : V2 406 = V 406 := o 406 (by decide) (by decide) (by decide) (by omega)
  have hlo : ∀ a, a = 71 ∨ 421 ≤ a ∧ a < D.2.2.2.1 → V2 a = V a := fun a ha => o a (by omega) (by omega) (by omega) (by omega)
  have g407 : ∀ j, j < 731 → V2 407 j = V 406 j := fun j hj => by rw [m407 j hj, up2_na (by decide), hC.2 406 (by omega)]
  have s70 : ∀ j, j ≠ 5 → V2 70 j = V 70 j := fun j hj => by rw [mF 70 (by decide), up2_ni hj, hC.2 70 (by omega)]
  refine ⟨h.tp.mov (o 77 (by decide) (by decide) (by decide) (by omega)) (o 410 (by decide) (by decide) (by decide) (by omega)) (by rw [o 76 (by decide) (by decide) (by decide) (by omega)]) (e5 8 (by decide) (by decide)), ⟨by rw [o 2 (by decide) (by decide) (by decide) (by omega)]; exact h.v2, h.ws.mov fun a ha => o a (by omega) (by omega) (by omega) (by omega), ?_⟩, ?_, ?_, ?_, ⟨?_, ?_⟩, ⟨by rw [d103]; exact h.l81, fun _ => ⟨?_, ?_, ?_, ls, ?_⟩⟩, ⟨by rw [d2]; omega, by rw [d2]; omega, by rw [d2]; omega⟩, by rw [o 1 (by decide) (by decide) (by decide) (by omega)]; exact h.v1, by rw [d2]; exact h.k1⟩
  · unfold Bv
    rw [e5 15 (by decide) (by decide), e5 16 (by decide) (by decide)]
    exact h.bv
  · rw [e406]
    exact ⟨h.st.keep fun i hi => o _ (by omega) (by omega) (by omega) (by omega), h.wf, h.r15⟩
  · rw [e406]
    exact h.law.mov d81 hlo (fun _ _ _ => by rw [d2]) (by rw [d2]; exact Nat.le_refl _) rfl id
  · exact h.past.mov (s70 7 (by decide)) (s70 8 (by decide)) (e5 6 (by decide) (by decide)) (fun a h1 h2 => o a (by omega) (by omega) (by omega) (by omega)) (o 409 (by decide) (by decide) (by decide) (by omega)) (by rw [e406]) (by rw [e406]) (fun a ha => dS a (by omega))
  · rw [s70 1 (by decide), e5 12 (by decide) (by decide)]; exact h.fl.1
  · rw [mF 70 (by decide), up2_at, m3]
  · refine St.ext (p := V 406) ((hC.st h.st).keep fun i hi => ?_) (fun j hj => g407 j (by omega))
    rw [mF _ (by simp; omega), up2_na (by omega)]
  · exact h.wf.ext fun j hj => g407 j (by omega)
  · rw [g407 15 (by decide)]; exact h.r15
  · refine h.law.mov (by rw [d103]) hlo (fun _ _ _ => by rw [d2]) (by rw [d2]; exact Nat.le_refl _) (g407 1 (by decide)) (fun ht => ht.cg (g407 1 (by decide)) (g407 2 (by decide)) (fun j _ hj => g407 j hj))
theorem op_52 (h : Inv S L V D k b n ls) (hN : NX S L d k Q i4) : RY d 107 0 [vr 70] [] V D (yback d 381 3194 [vr 1, vr 70, vr 405, vr 420, vi i4, v5, v6] [] Q) := by
  have hct := h.ct
  refine ca_back h.l103 (fun h0 => ?_) (fun h1 V1 hC => ?_)
  · show RY d 381 3194 [vr 1, vr 70, vr 405, vr 420, vi i4, v5, v6] [vi 0] V D Q
    refine u_381_3194 (ma_back (fun _ V2 hC => ?_) (fun hn => absurd (by rw [← h.fl.2]; exact h0) hn))
    show RY d 381 3198 [vr 1, vr 70, vr 405, vr 420, vi i4, v5, v6] [vi 0, vi 0] V2 D Q
    exact u_381_3198 ⟨fun _ => hN _ _ _ _ _ _ _ (h.cor hC CorD.rf), fun hne => absurd rfl hne⟩
  · obtain ⟨D1, hD1⟩ : ∃ D1 : yD, D1 = (D.1, up1 D.2.1 81 (D.2.1 103), D.2.2) := ⟨_, rfl⟩
    rw [← hD1]
    have h3 : V 405 3 ≠ 0 := by rw [← h.fl.2]; exact h1
    obtain ⟨k1, k2, k3, ls', k4⟩ := h.kep h3
    have f405 : (up2 V1 70 8 0) 405 = V 405 := by rw [up2_na (by decide), hC.2 405 (by omega)]
    show RY d 381 3194 [vr 1, vr 70, vr 405, vr 420, vi i4, v5, v6] [vi 1] (up2 V1 70 8 0) D1 Q
    refine u_381_3194 (ma_back (fun hn => absurd hn (by rw [f405]; exact h3)) (fun _ V2 m6 mo mF m406 => ?_))
    show RY d 381 3198 [vr 1, vr 70, vr 405, vr 420, vi i4, v5, v6] [vi 1, vi 1] V2 D1 Q
    refine u_381_3198 ⟨fun _ => hN _ _ b n ls' _ _ ?_, fun hne => absurd rfl hne⟩
    have o : ∀ a, a ≠ 70 → a ≠ 405 → a ≠ 406 → (a < 81 ∨ 91 < a) → V2 a = V a := fun a g1 g2 g3 g4 => by rw [mF a (by simp; omega), up2_na g1, hC.2 a (by omega)]
    have e5 : ∀ j, j ≠ 0 → j ≠ 6 → V2 405 j = V 405 j := fun j g1 g2 => by rw [mo j g1 g2, f405]
    have d81 : D1.2.1 81 = D.2.1 103 := by rw [hD1]; exact up1_at (f := D.2.1) (a := 81) (z := D.2.1 103)
    have d103 : D1.2.1 103 = D.2.1 103 := by rw [hD1]; exact up1_n (f := D.2.1) (a := 81) (b := 103) (z := D.2.1 103) (by decide)
    have d2 : D1.2.2 = D.2.2 := by rw [hD1]
    have hlo : ∀ a, a = 71 ∨ 421 ≤ a ∧ a < D.2.2.2.1 → V2 a = V a := fun a ha => o a (by omega) (by omega) (by omega) (by omega)
    have g406 : ∀ j, j < 731 → V2 406 j = V 407 j := fun j hj => by rw [m406 j hj, up2_na (by decide), hC.2 407 (by omega)]
    have s70 : ∀ j, j ≠ 8 → V2 70 j = V 70 j := fun j hj => by rw [mF 70 (by decide), up2_ni hj, hC.2 70 (by omega)]
    refine ⟨h.tp.mov (o 77 (by decide) (by decide) (by decide) (by omega)) (o 410 (by decide) (by decide) (by decide) (by omega)) (by rw [o 76 (by decide) (by decide) (by decide) (by omega)]) (e5 8 (by decide) (by decide)), ⟨by rw [o 2 (by decide) (by decide) (by decide) (by omega)]; exact h.v2, h.ws.mov fun a ha => o a (by omega) (by omega) (by omega) (by omega), ?_⟩, ⟨?_, ?_, ?_⟩, ?_, PastR.nil ?_ ?_ m6, ⟨?_, ?_⟩, ⟨by rw [d103]; exact h.l103, ?_⟩, ⟨by rw [d2]; omega, by rw [d2]; omega, by rw [d2]; omega⟩, by rw [o 1 (by decide) (by decide) (by decide) (by omega)]; exact h.v1, by rw [d2]; exact h.k1⟩
    · unfold Bv
      rw [e5 15 (by decide) (by decide), e5 16 (by decide) (by decide)]
      exact h.bv
    · refine St.ext (p := V 407) ((hC.st k1).keep fun i hi => ?_) (fun j hj => g406 j (by omega))
      rw [mF _ (by simp; omega), up2_na (by omega)]
    · exact k2.ext fun j hj => g406 j (by omega)
    · rw [g406 15 (by decide)]; exact k3
    · exact k4.mov d81 hlo (fun _ _ _ => by rw [d2]) (by rw [d2]; exact Nat.le_refl _) (g406 1 (by decide)) (fun ht => ht.cg (g406 1 (by decide)) (g406 2 (by decide)) (fun j _ hj => g406 j hj))
    · rw [s70 7 (by decide)]; exact h.past.2.2.1
    · rw [mF 70 (by decide), up2_at]
    · rw [s70 1 (by decide), e5 12 (by decide) (by decide)]; exact h.fl.1
    · rw [s70 5 (by decide), e5 3 (by decide) (by decide)]; exact h.fl.2
    · exact h.kep.mov (e5 3 (by decide) (by decide)) (fun i hi => o _ (by omega) (by omega) (by omega) (by omega)) (o 407 (by decide) (by decide) (by decide) (by omega)) d103 hlo (fun _ _ _ => by rw [d2]) (by rw [d2]; exact Nat.le_refl _)
theorem op_50 (h : Inv S L V D k b n ls) (hN : NX S L d k Q i4) : RY d 103 0 [vr 70] [] V D (yback d 381 3170 [vr 1, vr 70, vr 405, vr 420, vi i4, v5, v6] [] Q) := by
  have hct := h.ct
  obtain ⟨p1, p2, p3, p4⟩ := h.past
  obtain ⟨nx, hnx⟩ : ∃ nx : Nat, V 70 7 = (nx : Int) := ⟨(V 70 7).toNat, by omega⟩
  obtain ⟨a, ha⟩ : ∃ a : Nat, V 70 8 = (a : Int) := ⟨(V 70 8).toNat, by omega⟩
  have lst : 0 < a → St V (115 + 11 * ((nx + 11) % 12)) (arow V (a - 1)) ∧ WF (arow V (a - 1)) ∧ r32 (arow V (a - 1) 15) ∧ D.2.1 (115 + 11 * ((nx + 11) % 12)) = D.2.1 81 ∧ arow V (a - 1) 1 = V 406 1 ∧ arow V (a - 1) 2 = V 406 2 := fun h0 => by
    have := p4 (a - 1) (by omega)
    rw [hnx, ha, nn_toNat, nn_toNat, show pix nx a (a - 1) = (nx + 11) % 12 by unfold pix; omega] at this
    exact this
  refine ca_undo hnx (by omega) ha (by omega) (fun h0 => by rw [(lst h0).2.2.2.1]; exact h.l81) (fun h0 => ?_) (fun h0 V1 hC => ?_)
  · show RY d 381 3170 [vr 1, vr 70, vr 405, vr 420, vi i4, v5, v6] [vi 0] V D Q
    refine u_381_3170 (ma_undo (a := a) (by rw [← p1]; exact ha) (by omega) (fun _ V2 hC => ?_) (fun hn => absurd h0 (by omega)))
    show RY d 381 3174 [vr 1, vr 70, vr 405, vr 420, vi i4, v5, v6] [vi 0, vi 0] V2 D Q
    exact u_381_3174 ⟨fun _ => hN _ _ _ _ _ _ _ (h.cor hC CorD.rf), fun hne => absurd rfl hne⟩
  · obtain ⟨D1, hD1⟩ : ∃ D1 : yD, D1 = (D.1, up1 D.2.1 81 (D.2.1 (115 + 11 * ((nx + 11) % 12))), D.2.2) := ⟨_, rfl⟩
    rw [← hD1]
    obtain ⟨l1, l2, l3, l4, l5, l6⟩ := lst h0
    have w : ∀ x, x ≠ 70 → x < 81 ∨ 91 < x → V1 x = V x := fun x g1 g2 => by rw [hC.2 x (by omega), up2_na g1, up2_na g1]
    have f405 : V1 405 = V 405 := w 405 (by decide) (by omega)
    show RY d 381 3170 [vr 1, vr 70, vr 405, vr 420, vi i4, v5, v6] [vi 1] V1 D1 Q
    refine u_381_3170 (ma_undo (a := a) (by rw [f405, ← p1]; exact ha) (by omega) (fun hn => absurd h0 (by omega)) (fun _ V2 m6 mo mF ml mh => ?_))
    show RY d 381 3174 [vr 1, vr 70, vr 405, vr 420, vi i4, v5, v6] [vi 1, vi 1] V2 D1 Q
    refine u_381_3174 ⟨fun _ => hN _ _ b n ls _ _ ?_, fun hne => absurd rfl hne⟩
    have o : ∀ x, x ≠ 70 → x ≠ 405 → x ≠ 406 → (x < 81 ∨ 91 < x) → V2 x = V x := fun x g1 g2 g3 g4 => by rw [mF x (by simp; omega), w x g1 g4]
    have e5 : ∀ j, j ≠ 0 → j ≠ 6 → V2 405 j = V 405 j := fun j g1 g2 => by rw [mo j g1 g2, f405]
    have d81 : D1.2.1 81 = D.2.1 81 := by rw [hD1]; exact (up1_at (f := D.2.1) (a := 81) (z := D.2.1 (115 + 11 * ((nx + 11) % 12)))).trans l4
    have dS : ∀ x, D1.2.1 x = D.2.1 x := fun x => by
      by_cases e : x = 81
      · rw [e]; exact d81
      · rw [hD1]; exact up1_n e
    have d2 : D1.2.2 = D.2.2 := by rw [hD1]
    have hlo : ∀ x, x = 71 ∨ 421 ≤ x ∧ x < D.2.2.2.1 → V2 x = V x := fun x hx => o x (by omega) (by omega) (by omega) (by omega)
    have g406 : ∀ j, j < 331 → V2 406 j = arow V (a - 1) j := fun j hj => by rw [ml j hj, w 409 (by decide) (by omega)]; rfl
    have h406 : ∀ j, 331 ≤ j → V2 406 j = V 406 j := fun j hj => by rw [mh j hj, w 406 (by decide) (by omega)]
    have s70 : ∀ j, V2 70 j = V1 70 j := fun j => by rw [mF 70 (by decide)]
    have v70 : ∀ j, V1 70 j = if j = 7 then (((nx + 11) % 12 : Nat) : Int) else if j = 8 then (a : Int) - 1 else V 70 j := fun j => by rw [hC.2 70 (by omega), up2_a, up2_a]
    have z7 : V2 70 7 = (((nx + 11) % 12 : Nat) : Int) := by rw [s70, v70, if_pos rfl]
    have z8 : V2 70 8 = ((a - 1 : Nat) : Int) := by rw [s70, v70, if_neg (by decide), if_pos rfl]; omega
    refine ⟨h.tp.mov (o 77 (by decide) (by decide) (by decide) (by omega)) (o 410 (by decide) (by decide) (by decide) (by omega)) (by rw [o 76 (by decide) (by decide) (by decide) (by omega)]) (e5 8 (by decide) (by decide)), ⟨by rw [o 2 (by decide) (by decide) (by decide) (by omega)]; exact h.v2, h.ws.mov fun x hx => o x (by omega) (by omega) (by omega) (by omega), ?_⟩, ⟨?_, ?_, ?_⟩, ?_, ⟨?_, ?_, ?_, ?_⟩, ⟨?_, ?_⟩, ⟨by rw [dS]; exact h.l103, ?_⟩, ⟨by rw [d2]; omega, by rw [d2]; omega, by rw [d2]; omega⟩, by rw [o 1 (by decide) (by decide) (by decide) (by omega)]; exact h.v1, by rw [d2]; exact h.k1⟩
    · unfold Bv
      rw [e5 15 (by decide) (by decide), e5 16 (by decide) (by decide)]
      exact h.bv
    · refine St.ext (p := arow V (a - 1)) (St.keep (hC.st (l1.keep fun i hi => ?_)) fun i hi => ?_) (fun j hj => g406 j hj)
      · rw [up2_na (by omega), up2_na (by omega)]
      · rw [mF _ (by simp; omega)]
    · exact l2.ext fun j hj => g406 j hj
    · rw [g406 15 (by decide)]; exact l3
    · exact h.law.mov d81 hlo (fun _ _ _ => by rw [d2]) (by rw [d2]; exact Nat.le_refl _) (by rw [g406 1 (by decide), l5]) (fun ht => ht.cong (by rw [g406 1 (by decide), l5]) (by rw [g406 2 (by decide), l6]) (fun j hj => h406 j hj))
    · rw [z8, m6]; omega
    · rw [z8]; omega
    · rw [z7]; omega
    · rw [z8, z7, nn_toNat, nn_toNat]
      intro j hj
      have := p4 j (by omega)
      rw [hnx, ha, nn_toNat, nn_toNat] at this
      have e : pix ((nx + 11) % 12) (a - 1) j = pix nx a j := by unfold pix; omega
      have hlt : pix nx a j < 12 := Nat.mod_lt _ (by omega)
      have er : arow V2 j = arow V j := by unfold arow; rw [o 409 (by decide) (by decide) (by decide) (by omega)]
      obtain ⟨b1, b2, b3, b4, b5, b6⟩ := this
      rw [e, er, dS, dS, g406 1 (by decide), g406 2 (by decide), l5, l6]
      exact ⟨b1.keep fun i hi => o _ (by omega) (by omega) (by omega) (by omega), b2, b3, b4, b5, b6⟩
    · rw [s70, v70, if_neg (by decide), if_neg (by decide), e5 12 (by decide) (by decide)]; exact h.fl.1
    · rw [s70, v70, if_neg (by decide), if_neg (by decide), e5 3 (by decide) (by decide)]; exact h.fl.2
    · exact h.kep.mov (e5 3 (by decide) (by decide)) (fun i hi => o _ (by omega) (by omega) (by omega) (by omega)) (o 407 (by decide) (by decide) (by decide) (by omega)) (dS 103) hlo (fun _ _ _ => by rw [d2]) (by rw [d2]; exact Nat.le_refl _)
end SPEC2
