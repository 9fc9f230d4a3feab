/-! ===== DAYS, AHEAD, TRIAL, SPAN: THE MODEL ===== -/
section MAPI
variable {d : Nat} {V : xF} {D : yD} {Q : xRes → xF → yD → Prop} {p : Rw} {ls : List Ln}
theorem m_aside (h : ∀ V', (∀ k, k < 331 → V' 408 k = V 406 k) → Fr [408] V V' → Q (.inl none) V' D) : RY d 126 0 [vr 405, vr 0] [] V D Q := by
  refine u_126_0 ?_
  have go : ∀ (n k : Nat) (V1 : xF), n + k = 331 → (∀ j, j < k → V1 408 j = V 406 j) → Fr [408] V V1 → RY d 126 2 [vr 405, vi (k : Int)] [] V1 D Q := by
    intro n
    induction n with
    | zero =>
      intro k V1 hk he hF
      have hk : k = 331 := by omega
      subst hk
      exact u_126_2 ⟨fun _ => h V1 he hF, fun hlt => absurd hlt (by decide)⟩
    | succ n ih =>
      intro k V1 hk he hF
      have e1 : wr ((k : Int) + 1) = ((k + 1 : Nat) : Int) := by rw [wr_id (by omega) (by omega)]; omega
      refine u_126_2 ⟨fun hle => ?_, fun _ => ⟨by clear e1; omega, by clear e1; omega, ?_⟩⟩
      · clear e1; omega
      · rintro V2 hV2
        rw [nn_toNat] at hV2
        rw [e1]
        clear e1
        refine ih (k + 1) V2 (by omega) (fun j hj => ?_) (by rw [hV2]; exact hF.tr (Fr.up (by decide)))
        rw [hV2, up2_a]
        by_cases e : j = k
        · rw [if_pos e, e, hF.at_ 406 (by decide)]
        · rw [if_neg e]; exact he j (by omega)
  exact go 331 0 V (by omega) (fun j hj => absurd hj (Nat.not_lt_zero _)) Fr.rf
theorem m_comes (h8 : ∀ k, k < 331 → V 408 k = p k) (hi : ∀ k, 331 ≤ k → V 406 k = p k) (h : ∀ V', V' 406 = p → Fr [406] V V' → Q (.inl none) V' D) : RY d 129 0 [vr 405, vr 0] [] V D Q := by
  refine u_129_0 ?_
  have go : ∀ (n k : Nat) (V1 : xF), n + k = 331 → (∀ j, (j < k ∨ 331 ≤ j) → V1 406 j = p j) → Fr [406] V V1 → RY d 129 2 [vr 405, vi (k : Int)] [] V1 D Q := by
    intro n
    induction n with
    | zero =>
      intro k V1 hk he hF
      have hk : k = 331 := by omega
      subst hk
      exact u_129_2 ⟨fun _ => h V1 (funext fun j => he j (by omega)) hF, fun hlt => absurd hlt (by decide)⟩
    | succ n ih =>
      intro k V1 hk he hF
      have e1 : wr ((k : Int) + 1) = ((k + 1 : Nat) : Int) := by rw [wr_id (by omega) (by omega)]; omega
      refine u_129_2 ⟨fun hle => ?_, fun _ => ⟨by clear e1; omega, by clear e1; omega, ?_⟩⟩
      · clear e1; omega
      · rintro V2 hV2
        rw [nn_toNat] at hV2
        rw [e1]
        clear e1
        refine ih (k + 1) V2 (by omega) (fun j hj => ?_) (by rw [hV2]; exact hF.tr (Fr.up (by decide)))
        rw [hV2, up2_a]
        by_cases e : j = k
        · rw [if_pos e, e, hF.at_ 408 (by decide)]; exact h8 k (by omega)
        · rw [if_neg e]; exact he j (by omega)
  exact go 331 0 V (by omega) (fun j hj => by rcases hj with hj | hj; exact absurd hj (Nat.not_lt_zero _); exact hi j hj) Fr.rf
/-- what a trial leaves -/
def triF (V V' : xF) : Prop := Fr [405, 406, 408, 411, 412, 413] V V' ∧ (∀ k, ((k ≤ 8 ∧ k ≠ 0) ∨ k = 12 ∨ k = 0 ∨ 19 ≤ k) → V' 405 k = V 405 k) ∧ Bv V'
theorem dayF.tri {V V' : xF} (h : dayF V V') : triF V V' := ⟨h.1.sub (by decide), h.2.1, h.2.2⟩
theorem triF.tr {V V' V2 : xF} (h : triF V V') (h' : triF V' V2) : triF V V2 := ⟨h.1.tr h'.1, fun k hk => (h'.2.1 k hk).trans (h.2.1 k hk), h'.2.2⟩
theorem Fr.tri {V V' : xF} {S : List Nat} (h : Fr S V V') (hS : S.all (fun a => Nat.beq a 406 || Nat.beq a 408) = true) (hB : Bv V) : triF V V' := by
  have hk : ∀ a, a ∈ S → a = 406 ∨ a = 408 := by
    intro a ha
    have := List.all_eq_true.mp hS a ha
    rw [Bool.or_eq_true] at this
    exact this.imp Nat.eq_of_beq_eq_true Nat.eq_of_beq_eq_true
  have e5 : V' 405 = V 405 := h 405 (fun hm => by have := hk _ hm; omega)
  refine ⟨fun a ha => h a (fun hm => ha ?_), fun k _ => by rw [e5], by unfold Bv; rw [e5]; exact hB⟩
  rcases hk a hm with e | e <;> rw [e] <;> decide
theorem triF.cor {V V' : xF} (h : triF V V') (h6 : V' 406 = V 406) : Cor V V' := by
  obtain ⟨h1, h2, h3⟩ := h
  refine ⟨fun a ha => ?_, h2 3 (by omega), h2 6 (by omega), h2 8 (by omega), h2 12 (by omega), by rw [h1 76 (by decide)], fun _ => h3⟩
  by_cases e : a = 406
  · rw [e]; exact h6
  · refine h1 a (fun hm => ?_)
    have : a = 405 ∨ a = 406 ∨ a = 408 ∨ a = 411 ∨ a = 412 ∨ a = 413 := by simpa using hm
    rcases this with rfl | rfl | rfl | rfl | rfl | rfl <;> first | exact absurd rfl e | exact absurd ha (by decide)
theorem triF.ws {V V' : xF} (h : triF V V') (hw : Ws V) : Ws V' := fun a g1 g2 j => by rw [h.1.at_ a (by simp; omega)]; exact hw a g1 g2 j
theorem triF.z {V V' : xF} (h : triF V V') : V' 405 0 = V 405 0 := h.2.1 0 (by omega)
theorem ma_days {n : Int} {a : Nat} (h6 : V 405 6 = (a : Int)) (ha : a ≤ 12) (hM : MC V p ls) (hB : Bv V) (hd : 30 ≤ d) (h : ∀ V2, V2 405 0 = mCd 0 (aR (aDays p ls n)) → EndM (aDays p ls n) a V V2 → Q (.inl (some (vi (mVal (aR (aDays p ls n)))))) V2 D) : RY d 26 0 [vr 405, vi n] [] V D Q := by
  unfold aDays at h
  obtain ⟨hE, hW, hT, hw⟩ := id hM
  refine u_26_0 ?_
  rw [yr124]
  by_cases hn : 1 ≤ n ∧ n ≤ 60
  · rw [if_pos hn]
    rw [sIf_y hn] at h
    refine ⟨fun _ => ?_, fun g => absurd g (by decide)⟩
    rintro V1 hV1
    have t0 : V1 405 0 = 0 := by rw [hV1]; exact v405.1
    have C1 : Cor V V1 := by rw [hV1]; exact v405.2.2
    clear hV1
    obtain ⟨n, rfl⟩ : ∃ m : Nat, n = (m : Int) := ⟨n.toNat, by omega⟩
    rw [nn_toNat] at h
    refine ⟨fun _ => ?_, fun g => by omega⟩
    refine m_remembers (a := a) (by rw [C1.2.2.1]; exact h6) ha fun V' hR => ?_
    show RY d 26 32 _ _ V' D Q
    have hB' : Bv V' := by
      have := C1.2.2.2.2.2.2 hB
      unfold Bv
      rw [hR.2.1 15 (by decide), hR.2.1 16 (by decide)]
      exact this
    have hM' : MC V' p ls := by
      have hM1 := hM.c C1
      exact ⟨by rw [hR.2.2.1 406 (by decide)]; exact hM1.1, hW, hT, fun b g1 g2 j => by rw [hR.2.2.1 b (by simp; omega)]; exact hM1.2.2.2 b g1 g2 j⟩
    refine u_26_32 (m_goes hM' hB' (by omega) hd fun V2 hF hM2 => ?_)
    show RY d 26 38 _ _ V2 D Q
    refine u_26_38 (m_letOnes (by rw [hM2.1]; exact hM2.2.1) ?_)
    show RY d 26 42 _ _ V2 D Q
    rw [hM2.1]
    refine u_26_42 (m_bits (letF_b hM2.2.1) ?_)
    show RY d 26 45 _ _ V2 D Q
    refine u_26_45 (h V2 ?_ ?_)
    · rw [hF.2.1 0 (by omega), hR.2.1 0 (by decide)]
      exact t0
    · refine ⟨V1, V', C1, hR, ⟨hF.2.1 3 (by omega), hF.2.1 6 (by omega), hF.2.1 8 (by omega), hF.2.1 12 (by omega)⟩, fun b hb hb6 => hF.1 b (fun hm => ?_), by rw [hF.1 76 (by decide)], fun k _ => by rw [hM2.1], fun k hk => ?_, fun _ => hF.2.2⟩
      · have : b = 405 ∨ b = 406 ∨ b = 411 ∨ b = 412 ∨ b = 413 := by simpa using hm
        rcases this with rfl | rfl | rfl | rfl | rfl <;> first | exact absurd rfl hb6 | exact absurd hb (by decide)
      · rw [hM2.1, days_hi hW hk, hM'.1]
  · rw [if_neg hn]
    rw [sIf_n hn] at h
    refine ⟨fun g => absurd rfl g, fun _ => ?_⟩
    rintro V1 hV1
    have t0 : V1 405 0 = 1 := by rw [hV1]; exact v405.1
    exact ⟨fun g => by omega, fun _ => h V1 t0 (by rw [hV1]; exact v405.2.2)⟩
/-- a trial: aside, days -/
theorem m_tried (hM : MC V p ls) (hB : Bv V) (hd : 30 ≤ d) {n : Nat} {b : Int} (hn : n ≤ 60) (s : Nat) (Q1 : xRes → xF → yD → Prop) (h : ∀ V', triF V V' → MC V' (daysR p ls b n) ls → Q1 (.inl none) V' D) : RY d 158 0 [vr 405, vi (n : Int), vi b, vr 0] [] V D Q1 :=
  m_goes hM hB hn hd fun V' hF hM' => h V' hF.tri hM'
theorem ma_ahead {t n : Int} (hM : MC V p ls) (hB : Bv V) (hd : 30 ≤ d) (h : ∀ V', V' 405 0 = mCd 2 (aAhead p ls t n) → Cor V V' → Q (.inl (some (vi (mVal (aAhead p ls t n))))) V' D) : RY d 92 0 [vr 405, vi t, vi n, vr 0] [] V D Q := by
  unfold aAhead at h
  obtain ⟨hE, hW, hT, hw⟩ := id hM
  refine u_92_0 ⟨yg142, ?_⟩
  rw [yr142 (by rw [hE]; exact hW), hE, yr124]
  by_cases ht : 0 ≤ t ∧ t < p 4
  · rw [if_pos ht]
    rw [aIf_y ht] at h
    refine ⟨fun _ => ?_, fun g => absurd g (by decide)⟩
    by_cases hn : 0 ≤ n ∧ n ≤ 60
    · rw [if_pos hn]
      rw [aIf_y hn] at h
      refine ⟨fun _ => ?_, fun g => absurd g (by decide)⟩
      rintro V1 hV1
      have t0 : V1 405 0 = 0 := by rw [hV1]; exact v405.1
      have C1 : Cor V V1 := by rw [hV1]; exact v405.2.2
      clear hV1
      obtain ⟨n, rfl⟩ : ∃ m : Nat, n = (m : Int) := ⟨n.toNat, by omega⟩
      obtain ⟨t, rfl⟩ : ∃ m : Nat, t = (m : Int) := ⟨t.toNat, by omega⟩
      rw [nn_toNat, nn_toNat] at h
      have ht5 := (hW.ten ht.2).1
      have hM1 := hM.c C1
      have hB1 := C1.2.2.2.2.2.2 hB
      refine ⟨fun _ => ?_, fun g => by omega⟩
      refine m_aside fun V2 h8 hF2 => ?_
      show RY d 92 44 _ _ V2 D Q
      have T2 := hF2.tri (by decide) hB1
      have hM2 : MC V2 p ls := ⟨by rw [hF2.at_ 406 (by decide)]; exact hM1.1, hW, hT, T2.ws hM1.2.2.2⟩
      refine u_92_44 (m_goes hM2 T2.2.2 (by omega) hd fun V3 hF3 hM3 => ?_)
      show RY d 92 50 _ _ V3 D Q
      refine u_92_50 ⟨yg143 ht5 (by omega), ?_⟩
      rw [yr143_2 ht5, hM3.1]
      have T3 := T2.tr hF3.tri
      refine m_comes (p := p) (fun k hk => ?_) (fun k hk => ?_) fun V4 e4 hF4 => ?_
      · rw [hF3.1 408 (by decide), h8 k hk, hM1.1]
      · rw [hM3.1, days_hi hW hk]
      · show RY d 92 61 _ _ V4 D Q
        have T4 := T3.tr (hF4.tri (by decide) T3.2.2)
        exact u_92_61 (h V4 (by rw [T4.z, t0]; rfl) (C1.tr (T4.cor (e4.trans hM1.1.symm))))
    · rw [if_neg hn]
      rw [aIf_n hn] at h
      refine ⟨fun g => absurd rfl g, fun _ => ?_⟩
      rintro V1 hV1
      have t0 : V1 405 0 = 2 := by rw [hV1]; exact v405.1
      exact ⟨fun g => by omega, fun _ => h V1 t0 (by rw [hV1]; exact v405.2.2)⟩
  · rw [if_neg ht]
    rw [aIf_n ht] at h
    refine ⟨fun g => absurd rfl g, fun _ => ?_⟩
    rintro V1 hV1
    have t0 : V1 405 0 = 1 := by rw [hV1]; exact v405.1
    exact ⟨fun g => by omega, fun _ => h V1 t0 (by rw [hV1]; exact v405.2.2)⟩
theorem ma_trial {n b : Int} (hM : MC V p ls) (hB : Bv V) (hd : 30 ≤ d) (h : ∀ V', V' 405 0 = mCd 0 (aTrial p ls n b) → Cor V V' → Q (.inl (some (vi (mVal (aTrial p ls n b))))) V' D) : RY d 94 0 [vr 405, vi n, vi b, vr 0] [] V D Q := by
  unfold aTrial at h
  obtain ⟨hE, hW, hT, hw⟩ := id hM
  refine u_94_0 ?_
  rw [yr124]
  by_cases hn : 0 ≤ n ∧ n ≤ 60
  · rw [if_pos hn]
    rw [aIf_y hn] at h
    refine ⟨fun _ => ?_, fun g => absurd g (by decide)⟩
    rintro V1 hV1
    have t0 : V1 405 0 = 0 := by rw [hV1]; exact v405.1
    have C1 : Cor V V1 := by rw [hV1]; exact v405.2.2
    clear hV1
    obtain ⟨n, rfl⟩ : ∃ m : Nat, n = (m : Int) := ⟨n.toNat, by omega⟩
    rw [nn_toNat] at h
    have hM1 := hM.c C1
    have hB1 := C1.2.2.2.2.2.2 hB
    refine ⟨fun _ => ?_, fun g => by omega⟩
    refine m_aside fun V2 h8 hF2 => ?_
    show RY d 94 32 _ _ V2 D Q
    have T2 := hF2.tri (by decide) hB1
    have hM2 : MC V2 p ls := ⟨by rw [hF2.at_ 406 (by decide)]; exact hM1.1, hW, hT, T2.ws hM1.2.2.2⟩
    refine u_94_32 (m_goes hM2 T2.2.2 (by omega) hd fun V3 hF3 hM3 => ?_)
    show RY d 94 38 _ _ V3 D Q
    have T3 := T2.tr hF3.tri
    have hWn := hM3.2.1
    have fin : ∀ z : Int, z = (if b = 0 then letF (daysR p ls 1 n) else rentsF (daysR p ls 1 n)) → RY d 129 0 [vr 405, vr 0] [] V3 D (yback d 94 62 [vr 405, vi (n : Int), vi b, vi z] [] Q) := by
      intro z hz
      refine m_comes (p := p) (fun k hk => ?_) (fun k hk => ?_) fun V4 e4 hF4 => ?_
      · rw [hF3.1 408 (by decide), h8 k hk, hM1.1]
      · rw [hM3.1, days_hi hW hk]
      · show RY d 94 62 _ _ V4 D Q
        have T4 := T3.tr (hF4.tri (by decide) T3.2.2)
        rw [hz]
        exact u_94_62 (h V4 (by rw [T4.z, t0]; rfl) (C1.tr (T4.cor (e4.trans hM1.1.symm))))
    refine u_94_38 ⟨fun hb => m_letOnes (by rw [hM3.1]; exact hWn) ?_, fun hb => m_letOnes (by rw [hM3.1]; exact hWn) ?_⟩
    · rw [hM3.1]
      show RY d 94 57 _ _ V3 D Q
      exact u_94_57 (fin _ (by rw [if_pos hb]))
    · rw [hM3.1]
      show RY d 94 47 _ _ V3 D Q
      refine u_94_47 (m_rentsOf hM3.1 hWn ?_)
      show RY d 94 50 _ _ V3 D Q
      exact u_94_50 (fin _ (by rw [if_neg hb]))
  · rw [if_neg hn]
    rw [aIf_n hn] at h
    refine ⟨fun g => absurd rfl g, fun _ => ?_⟩
    rintro V1 hV1
    have t0 : V1 405 0 = 1 := by rw [hV1]; exact v405.1
    exact ⟨fun g => by omega, fun _ => h V1 t0 (by rw [hV1]; exact v405.2.2)⟩
theorem ma_span {n b : Int} (hM : MC V p ls) (hB : Bv V) (hd : 30 ≤ d) (h : ∀ V', V' 405 0 = mCd 0 (aSpan p ls n b) → Cor V V' → Q (.inl (some (vi (mVal (aSpan p ls n b))))) V' D) : RY d 96 0 [vr 405, vi n, vi b, vr 0, vr 0, vr 0] [] V D Q := by
  unfold aSpan at h
  obtain ⟨hE, hW, hT, hw⟩ := id hM
  refine u_96_0 ?_
  rw [yr124]
  by_cases hn : 0 ≤ n ∧ n ≤ 60
  · rw [if_pos hn]
    rw [aIf_y hn] at h
    refine ⟨fun _ => ?_, fun g => absurd g (by decide)⟩
    rintro V1 hV1
    have t0 : V1 405 0 = 0 := by rw [hV1]; exact v405.1
    have C1 : Cor V V1 := by rw [hV1]; exact v405.2.2
    clear hV1
    obtain ⟨n, rfl⟩ : ∃ m : Nat, n = (m : Int) := ⟨n.toNat, by omega⟩
    rw [nn_toNat] at h
    have hM1 := hM.c C1
    have hB1 := C1.2.2.2.2.2.2 hB
    refine ⟨fun _ => ?_, fun g => by omega⟩
    refine m_aside fun V2 h8 hF2 => ?_
    show RY d 96 32 _ _ V2 D Q
    have T2 := hF2.tri (by decide) hB1
    rw [hM1.1] at h8
    obtain ⟨sp, hsp⟩ : ∃ sp : Nat → Int, sp = fun k => if k = 0 then -1 else if b = 0 then mnC (cSd p ls n) k else mxC (cSd p ls n) k := ⟨_, rfl⟩
    have go : ∀ (m k : Nat) (V3 : xF) (v5 : xV), m + k = 6 → triF V1 V3 → V3 406 = p → (∀ j, j < 331 → V3 408 j = p j) → RY d 96 37 [vr 405, vi (n : Int), vi b, vi (sp k), vi ((k : Int) + 1), v5] [] V3 D Q := by
      intro m
      induction m with
      | zero =>
        intro k V3 v5 hk T3 e3 _
        have hk : k = 6 := by omega
        subst hk
        refine u_96_37 ⟨fun _ => ?_, fun hle => absurd hle (by decide)⟩
        have hq := h V3 (by rw [T3.z, t0]; rfl) (C1.tr (T3.cor (e3.trans hM1.1.symm)))
        rw [hsp]
        exact hq
      | succ m ih =>
        intro k V3 v5 hk T3 e3 h83
        refine u_96_37 ⟨fun hlt => by omega, fun _ => ?_⟩
        rintro V4 hV4
        have e4 : V4 406 = rup p 15 ((k + 1 : Nat) : Int) := by rw [hV4, up406, e3]; rfl
        have hF4 : Fr [406] V3 V4 := by rw [hV4]; exact Fr.up (by decide)
        have T4 := T3.tr (hF4.tri (by decide) T3.2.2)
        have hM4 : MC V4 (rup p 15 ((k + 1 : Nat) : Int)) ls := ⟨e4, hW.seed, hT.cong (rup_n (by decide)) (rup_n (by decide)) (fun j hj => rup_n (by omega)), T4.ws hM1.2.2.2⟩
        refine m_goes hM4 T4.2.2 (by omega) hd fun V5 hF5 hM5 => ?_
        show RY d 96 59 _ _ V5 D Q
        have hWn := hM5.2.1
        have T5 := T4.tr hF5.tri
        refine u_96_59 (m_letOnes (by rw [hM5.1]; exact hWn) ?_)
        rw [hM5.1]
        show RY d 96 63 _ _ V5 D Q
        refine u_96_63 (m_bits (letF_b hWn) ?_)
        show RY d 96 66 _ _ V5 D Q
        rw [show pcT (letF (daysR (rup p 15 ((k + 1 : Nat) : Int)) ls 1 n)) 31 = cSd p ls n (k + 1) from rfl]
        refine u_96_66 (m_comes (p := p) (fun j hj => ?_) (fun j hj => ?_) fun V6 e6 hF6 => ?_)
        · rw [hF5.1 408 (by decide), hF4.at_ 408 (by decide)]; exact h83 j hj
        · rw [hM5.1, days_hi hW.seed hj, rup_n (by omega)]
        · show RY d 96 72 _ _ V6 D Q
          have T6 := T5.tr (hF6.tri (by decide) T5.2.2)
          have h86 : ∀ j, j < 331 → V6 408 j = p j := fun j hj => by rw [hF6.at_ 408 (by decide), hF5.1 408 (by decide), hF4.at_ 408 (by decide)]; exact h83 j hj
          have nxt := fun (v : xV) => ih (k + 1) V6 v (by omega) T6 e6 h86
          have hc := cSd_b (ls := ls) hW (n := n) (s := k + 1)
          have e1 : wr ((k : Int) + 1 + 1) = ((k + 1 : Nat) : Int) + 1 := by rw [wr_id (by omega) (by omega)]; omega
          have hmn : mnC (cSd p ls n) (k + 1) = if cSd p ls n (k + 1) < mnC (cSd p ls n) k then cSd p ls n (k + 1) else mnC (cSd p ls n) k := rfl
          have hmx : mxC (cSd p ls n) (k + 1) = if mxC (cSd p ls n) k < cSd p ls n (k + 1) then cSd p ls n (k + 1) else mxC (cSd p ls n) k := rfl
          have hb : ∀ j, 0 ≤ mnC (cSd p ls n) j ∧ 0 ≤ mxC (cSd p ls n) j := by
            intro j
            induction j with
            | zero => exact ⟨(show (0 : Int) ≤ 5 by decide), Int.le_refl 0⟩
            | succ j ihj =>
              have := cSd_b (ls := ls) hW (n := n) (s := j + 1)
              unfold mnC mxC
              constructor <;> split <;> omega
          refine u_96_72 ?_
          rw [e1]
          clear e1
          have spk : sp (k + 1) = if b = 0 then mnC (cSd p ls n) (k + 1) else mxC (cSd p ls n) (k + 1) := by rw [hsp]; rfl
          rw [spk, hmn, hmx] at nxt
          by_cases hk0 : k = 0
          · subst hk0
            have e0 : sp 0 = -1 := by rw [hsp]; rfl
            rw [e0]
            refine ⟨fun g => absurd rfl g, fun _ => ?_⟩
            have z : (if b = 0 then (if cSd p ls n (0 + 1) < mnC (cSd p ls n) 0 then cSd p ls n (0 + 1) else mnC (cSd p ls n) 0) else (if mxC (cSd p ls n) 0 < cSd p ls n (0 + 1) then cSd p ls n (0 + 1) else mxC (cSd p ls n) 0)) = cSd p ls n (0 + 1) := by
              show (if b = 0 then (if cSd p ls n (0 + 1) < 5 then cSd p ls n (0 + 1) else 5) else (if 0 < cSd p ls n (0 + 1) then cSd p ls n (0 + 1) else 0)) = _
              (repeat' split) <;> omega
            rw [z] at nxt
            exact nxt _
          · have ek : sp k = if b = 0 then mnC (cSd p ls n) k else mxC (cSd p ls n) k := by rw [hsp]; exact if_neg hk0
            have hbk := hb k
            refine ⟨fun _ => ⟨fun b0 => ?_, fun b0 => ?_⟩, fun g => ?_⟩
            · rw [if_pos b0] at ek nxt
              have z : yr_169 (sp k) (cSd p ls n (k + 1)) V6 D = if cSd p ls n (k + 1) < mnC (cSd p ls n) k then cSd p ls n (k + 1) else mnC (cSd p ls n) k := by
                rw [ek]
                unfold yr_169
                (repeat' split) <;> omega
              rw [z]
              exact nxt _
            · rw [if_neg b0] at ek nxt
              have z : yr_185 (sp k) (cSd p ls n (k + 1)) V6 D = if mxC (cSd p ls n) k < cSd p ls n (k + 1) then cSd p ls n (k + 1) else mxC (cSd p ls n) k := by
                rw [ek]
                unfold yr_185
                (repeat' split) <;> omega
              rw [z]
              exact nxt _
            · rw [ek] at g
              split at g <;> omega
    have e0 : sp 0 = -1 := by rw [hsp]; rfl
    have := go 6 0 V2 (vr 0) (by omega) T2 (by rw [hF2.at_ 406 (by decide)]; exact hM1.1) h8
    rw [e0] at this
    exact u_96_32 this
  · rw [if_neg hn]
    rw [aIf_n hn] at h
    refine ⟨fun g => absurd rfl g, fun _ => ?_⟩
    rintro V1 hV1
    have t0 : V1 405 0 = 1 := by rw [hV1]; exact v405.1
    exact ⟨fun g => by omega, fun _ => h V1 t0 (by rw [hV1]; exact v405.2.2)⟩
end MAPI
