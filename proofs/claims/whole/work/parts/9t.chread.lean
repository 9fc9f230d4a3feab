/-! ===== HOUSE: THE CLASS ===== -/
theorem coreA_iff {a : Nat} (h : coreA a = true) : a ≠ 76 ∧ ¬ (78 ≤ a ∧ a ≤ 80) ∧ ¬ (92 ≤ a ∧ a ≤ 102) ∧ ¬ (247 ≤ a ∧ a ≤ 405) ∧ a ≠ 408 ∧ ¬ (411 ≤ a ∧ a ≤ 420) := by
  have e1 : ∀ b c : Nat, Nat.blt b c = true → b < c := fun b c g => Nat.le_of_ble_eq_true g
  have e2 : ∀ b c : Nat, Nat.ble b c = true → b ≤ c := fun b c g => Nat.le_of_ble_eq_true g
  have e3 : ∀ b c : Nat, Nat.beq b c = true → b = c := fun b c g => Nat.eq_of_beq_eq_true g
  unfold coreA at h
  rcases (Bool.or_eq_true _ _).mp h with h | h
  · rcases (Bool.or_eq_true _ _).mp h with h | h
    · rcases (Bool.or_eq_true _ _).mp h with h | h
      · rcases (Bool.or_eq_true _ _).mp h with h | h
        · rcases (Bool.or_eq_true _ _).mp h with h | h
          · rcases (Bool.or_eq_true _ _).mp h with h | h
            · rcases (Bool.or_eq_true _ _).mp h with h | h
              · rcases (Bool.or_eq_true _ _).mp h with h | h
                · have := e1 _ _ h; omega
                · have := e3 _ _ h; omega
              · have h := (Bool.and_eq_true _ _).mp h
                have := e2 _ _ h.1
                have := e2 _ _ h.2
                omega
            · have h := (Bool.and_eq_true _ _).mp h
              have := e2 _ _ h.1
              have := e2 _ _ h.2
              omega
          · have := e3 _ _ h; omega
        · have := e3 _ _ h; omega
      · have := e3 _ _ h; omega
    · have := e3 _ _ h; omega
  · have := e2 _ _ h; omega
section CHREAD
variable {D : yD} {T : TK} {m N d : Nat} {p : Rw} {Q : xRes → xF → yD → Prop}
theorem CL.isE {V : xF} {i : Nat} (hC : CL V T m N i) : yg_298 V D ∧ yr_298 V D = if i = N then 1 else 0 := by
  obtain ⟨b1, b2, b3, b4, b5, b6, b7, b8, b9⟩ := hC
  have hN := b4.1
  unfold yg_298 yr_298
  rw [b1, nn_toNat, b5]
  refine ⟨by omega, ?_⟩
  by_cases e : i = N
  · rw [if_pos e, e, if_pos b4.2.1]
  · rw [if_neg e, if_neg (fun hc => ?_)]
    have t := (b4.kind (show i < N by omega)).1
    rw [hc] at t
    have : kof (T.1 (T.2.2.1 i).toNat) = 1 ∨ kof (T.1 (T.2.2.1 i).toNat) = 2 ∨ kof (T.1 (T.2.2.1 i).toNat) = 0 := by
      unfold kof
      (repeat' split) <;> simp
    omega
/-- what the class has read -/
def RdH (V V' : xF) : Prop := (∀ a, a ≠ 76 → ¬ (78 ≤ a ∧ a ≤ 80) → ¬ (92 ≤ a ∧ a ≤ 102) → V' a = V a) ∧ J76 V V'
theorem RdH.hc {V V' V2 : xF} (h : RdH V V') (h' : HCh V' V2) : RdH V V2 := ⟨fun a h1 h2 h3 => (h'.1 a h1 h3).trans (h.1 a h1 h2 h3), fun j h5 h6 => (h'.2 j h5 h6).trans (h.2 j h5 h6)⟩
theorem c_hread {V : xF} {b : Nat → Int} (hm : V 76 1 = (m : Int)) (hm4 : m ≤ 400) (hb : ∀ k, k < 400 → V 77 k = b k) (hV : Ws V) (hS : St V 92 p) (hW : WF p)
    (h1 : ∀ V' N T q, T.1 = b → okT T m N → hHouse T N p = (N, some q) → St V' 92 q → RdH V V' → Q (.inl (some (vi 1))) V' D)
    (h0 : ∀ V' N T e, T.1 = b → okT T m N → hHouse T N p = (e, none) → CL V' T m N e → RdH V V' → Q (.inl (some (vi 0))) V' D) : RY d 226 0 [vr 247, vr 92, vr 0] [] V D Q := by
  refine u_226_0_92 (c_split (m := m) (b := b) hm hm4 hb ?_)
  intro V3 N hC h76 F3
  show RY d 226 7 _ _ V3 D Q
  obtain ⟨T, hT⟩ : ∃ T : TK, T = (b, V3 78, V3 79, V3 80) := ⟨_, rfl⟩
  have okTT : okT T m N := by rw [hT]; exact hC.2.2.2.1
  have hTb : T.1 = b := by rw [hT]
  have hC3 : CL V3 T m N 0 := ⟨hC.1, hC.2.1, hC.2.2.1, okTT, by rw [hT], by rw [hT], by rw [hT], fun k hk => by rw [hTb]; exact hC.2.2.2.2 k hk, fun a g1 g2 j => by rw [F3.at_ a (by simp only [List.mem_cons, List.not_mem_nil, or_false]; omega)]; exact hV a g1 g2 j⟩
  have R3 : RdH V V3 := ⟨fun a g1 g2 g3 => F3 a (by simp; omega), fun j g1 _ => h76 j g1⟩
  have S3 : St V3 92 p := hS.keep fun k hk => F3 _ (by simp; omega)
  have loop : ∀ (n c i : Nat) (V4 : xF) (q : Rw), c + n = 14 → CL V4 T m N i → St V4 92 q → WF q → RdH V V4 → qOk (hLs T N n q i) (fun j l => hHouse T N p = (N, some l)) (fun e => hHouse T N p = (e, none)) → RY d 226 21 [vr 247, vr 92, vi (c : Int)] [] V4 D Q := by
    intro n
    induction n with
    | zero =>
      intro c i V4 q hl hC4 hS4 hW4 R h
      exact u_226_21_92 ⟨fun _ => h0 V4 N T i hTb okTT h hC4 R, fun h5 => by omega⟩
    | succ n ih =>
      intro c i V4 q hl hC4 hS4 hW4 R h
      have hiN : i ≤ N := hC4.2.1
      refine u_226_21_92 ⟨fun h5 => by omega, fun _ => ?_⟩
      unfold hLs at h
      have hok := hLine_ok okTT hW4 hiN
      refine c_hline hC4 hS4 hW4 ?_
      obtain ⟨⟨j, o⟩, hr⟩ : ∃ r, r = hLine T q i := ⟨_, rfl⟩
      rw [← hr] at h hok ⊢
      cases o with
      | none =>
        intro V5 hC5 k5
        show RY d 226 32 _ _ V5 D Q
        exact u_226_32_92 ⟨fun h6 => absurd rfl h6, fun _ => h0 V5 N T j hTb okTT h hC5 (R.hc k5)⟩
      | some q' =>
        obtain ⟨hij, hjN, hWq', hk'⟩ := hok
        have h : qOk (qif (j = N) (j, some q') (qif (kS T j 59) (hLs T N n q' (j + 1)) (j, none))) (fun j l => hHouse T N p = (N, some l)) (fun e => hHouse T N p = (e, none)) := h
        intro V5 hC5 hS5 k5
        have R5 := R.hc k5
        have hE := hC5.isE (D := D)
        show RY d 226 32 _ _ V5 D Q
        refine u_226_32_92 ⟨fun _ => ⟨hE.1, ?_⟩, fun h6 => absurd h6 (by decide)⟩
        rw [hE.2]
        by_cases ej : j = N
        · rw [if_pos ej]
          rw [qif_y ej] at h
          exact ⟨fun h6 => absurd h6 (by decide), fun _ => h1 V5 N T _ hTb okTT h hS5 R5⟩
        · rw [if_neg ej]
          rw [qif_n ej] at h
          have e1 : wr ((c : Int) + 1) = ((c + 1 : Nat) : Int) := by rw [wr_id (by omega) (by omega)]; omega
          refine ⟨fun _ => hC5.pS (fun hlt ht => ?_) (fun ht => ?_), fun h6 => absurd rfl h6⟩
          · rw [qif_y ht] at h
            show RY d 226 58 _ _ _ D Q
            refine u_226_58_92 ⟨fun _ => ?_, fun h6 => absurd h6 (by decide)⟩
            rw [e1]
            clear e1
            exact ih (c + 1) (j + 1) _ q' (by omega) (hC5.up hlt) (hS5.keep fun k hk => up2_na (by omega)) hWq' (R5.hc ⟨fun a g1 _ => up2_na g1, fun k g1 _ => up2_ni g1⟩) h
          · rw [qif_n ht] at h
            show RY d 226 58 _ _ _ D Q
            exact u_226_58_92 ⟨fun h6 => absurd rfl h6, fun _ => h0 V5 N T j hTb okTT h hC5 R5⟩
  have hE := hC3.isE (D := D)
  refine u_226_7_92 ⟨hE.1, ?_⟩
  rw [hE.2]
  by_cases eN : 0 = N
  · rw [if_pos eN]
    refine ⟨fun h6 => absurd h6 (by decide), fun _ => h1 V3 N T p hTb okTT ?_ S3 R3⟩
    unfold hHouse
    rw [if_pos eN.symm, ← eN]
  · rw [if_neg eN]
    refine ⟨fun _ => loop 14 0 0 V3 p rfl hC3 S3 hW R3 ?_, fun h6 => absurd rfl h6⟩
    have hok := hLs_ok okTT 14 hW (Nat.zero_le N)
    have eH : hHouse T N p = hLs T N 14 p 0 := by unfold hHouse; rw [if_neg (fun e => eN e.symm)]
    rw [eH]
    obtain ⟨⟨j, o⟩, hr⟩ : ∃ r, r = hLs T N 14 p 0 := ⟨_, rfl⟩
    rw [← hr] at hok ⊢
    cases o with
    | none => rfl
    | some q =>
      have hj : j = N := hok.1
      show (j, some q) = (N, some q)
      rw [hj]
/-- what the class's call leaves -/
def HouC (V V' : xF) (f c : Int) : Prop := (∀ a, coreA a = true → a ≠ 70 → ¬ (81 ≤ a ∧ a ≤ 91) → V' a = V a) ∧ (∀ j, j ≠ 1 → j ≠ 8 → V' 70 j = V 70 j) ∧ V' 70 1 = f ∧ V' 70 8 = c ∧ V' 76 1 = 0 ∧ V' 405 = V 405
theorem ca_house {V : xF} {b : Nat → Int} (hS : St V 81 p) (hW : WF p) (hl : D.2.1 81 ≠ 0) (hm : V 76 1 = (m : Int)) (hm4 : m ≤ 400) (hb : ∀ k, k < 400 → V 77 k = b k) (hV : Ws V)
    (h : ∀ N T, T.1 = b → okT T m N → qOk (hHouse T N p) (fun _ q => (p 0 < 12 → ∀ V' D', HouC V V' (-1) 0 → St V' 81 (rup q 0 (p 0 + 1)) → CorD D D' → Q (.inl (some (vi (p 0 + 1)))) V' D') ∧ (12 ≤ p 0 → ∀ V' D', HouC V V' (-1) (V 70 8) → St V' 81 p → CorD D D' → Q (.inr 3) V' D')) (fun e => ∀ V' D', HouC V V' (T.2.2.1 e) (V 70 8) → St V' 81 p → CorD D D' → Q (.inr 0) V' D')) : RY d 125 0 [vr 70, vr 0] [] V D Q := by
  have h0 := hW.2.2.2.2.2.2.2.2.2.1
  refine u_125_0 (c_copy StA_92 StA_81 (by omega) hl (fun V1 hC1 => ?_))
  show RY d 125 11 _ _ V1 _ Q
  obtain ⟨D1, hD1⟩ : ∃ D1 : yD, D1 = (D.1, up1 D.2.1 92 (D.2.1 81), D.2.2) := ⟨_, rfl⟩
  rw [← hD1]
  have o1 : ∀ a, ¬ (92 ≤ a ∧ a ≤ 102) → V1 a = V a := fun a ha => hC1.2 a (by omega)
  have d92 : D1.2.1 92 = D.2.1 81 := by rw [hD1]; show up1 D.2.1 92 (D.2.1 81) 92 = _; unfold up1; rw [if_pos rfl]
  have cD1 : CorD D D1 := by
    rw [hD1]
    refine ⟨fun a ha => ?_, rfl, rfl, by dsimp only; omega, by dsimp only; omega⟩
    show up1 D.2.1 92 (D.2.1 81) a = D.2.1 a
    unfold up1
    rw [if_neg ha]
  have cX1 : CorD D (excD D1) := by
    rw [hD1]
    refine ⟨fun a ha => ?_, rfl, rfl, Nat.le_refl _, Nat.le_refl _⟩
    show up1 D.2.1 92 (D.2.1 81) a = D.2.1 a
    unfold up1
    rw [if_neg ha]
  have S1 : St V1 92 p := hC1.st hS
  -- what was read, and the tape is empty
  have gone : ∀ (V2 V4 : xF) (f : Int), RdH V1 V2 → V4 = up2 (up2 V2 70 1 f) 76 1 0 → HouC V V4 f (V 70 8) ∧ St V4 81 p := by
    intro V2 V4 f hR hV4
    have c1 : ∀ a, coreA a = true → a ≠ 76 ∧ ¬ (78 ≤ a ∧ a ≤ 80) ∧ ¬ (92 ≤ a ∧ a ≤ 102) ∧ ¬ (247 ≤ a ∧ a ≤ 405) ∧ a ≠ 408 ∧ ¬ (411 ≤ a ∧ a ≤ 420) := by
      intro a ha
      exact coreA_iff ha
    have o2 : ∀ a, a ≠ 70 → a ≠ 76 → ¬ (78 ≤ a ∧ a ≤ 80) → ¬ (92 ≤ a ∧ a ≤ 102) → V4 a = V a := fun a g0 g1 g2 g3 => by rw [hV4, up2_na g1, up2_na g0, hR.1 a g1 g2 g3, o1 a g3]
    refine ⟨⟨fun a ha g0 _ => o2 a g0 (c1 a ha).1 (c1 a ha).2.1 (c1 a ha).2.2.1, fun j g1 g8 => ?_, ?_, ?_, ?_, ?_⟩, hS.keep fun k hk => o2 _ (by omega) (by omega) (by omega) (by omega)⟩
    · rw [hV4, up2_na (by decide), up2_ni g1, hR.1 70 (by decide) (by decide) (by decide), o1 70 (by decide)]
    · rw [hV4, up2_na (by decide), up2_at]
    · rw [hV4, up2_na (by decide), up2_ni (by decide), hR.1 70 (by decide) (by decide) (by decide), o1 70 (by decide)]
    · rw [hV4, up2_at]
    · exact o2 405 (by decide) (by decide) (by decide) (by decide)
  have cut : ∀ (V2 V3 : xF) (i : Int) (f : Int), RdH V1 V2 → V3 = up2 V2 70 1 f → (∀ V4, V4 = up2 V3 76 1 0 → RY d 125 50 [vr 70, vi i] [vi 1] V4 D1 Q) → RY d 123 0 [vr 76, vi 0] [] V3 D1 (yback d 125 50 [vr 70, vi i] [] Q) := by
    intro V2 V3 i f hR hV3 hh
    have e1 : V3 76 1 = (m : Int) := by rw [hV3, up2_na (by decide), hR.2 1 (by decide) (by decide), o1 76 (by decide)]; exact hm
    refine u_123_0 ⟨fun hn => absurd hn (by decide), fun _ => ⟨fun _ V4 hV4 => hh V4 hV4, fun hlt => ?_⟩⟩
    rw [e1] at hlt
    omega
  refine u_125_11 (c_hread (m := m) (b := b) (by rw [o1 76 (by decide)]; exact hm) hm4 (fun k hk => by rw [o1 77 (by decide)]; exact hb k hk) (fun a g1 g2 j => by rw [o1 a (by omega)]; exact hV a g1 g2 j) S1 hW ?_ ?_)
  · intro V2 N T q hTb hT hp S2 hR
    have hh := h N T hTb hT
    have hok := hHouse_ok hT hW
    rw [hp] at hh hok
    have hh : (p 0 < 12 → ∀ V' D', HouC V V' (-1) 0 → St V' 81 (rup q 0 (p 0 + 1)) → CorD D D' → Q (.inl (some (vi (p 0 + 1)))) V' D') ∧ (12 ≤ p 0 → ∀ V' D', HouC V V' (-1) (V 70 8) → St V' 81 p → CorD D D' → Q (.inr 3) V' D') := hh
    have hk : keepR p q := hok.2.2
    show RY d 125 22 _ _ V2 D1 Q
    refine u_125_22 ⟨fun h9 => absurd h9 (by decide), fun _ V3 hV3 => cut V2 V3 1 (-1) hR hV3 fun V4 hV4 => ?_⟩
    rw [hV3] at hV4
    have G := gone V2 V4 (-1) hR hV4
    have e10 : V4 81 10 = p 0 := G.2.2.2.2.2.2.2.2.2.2.2.1
    refine u_125_50 ⟨fun _ => ?_, fun h9 => absurd h9 (by decide)⟩
    rw [e10]
    refine ⟨fun hlt => ?_, fun hge => hh.2 hge V4 _ G.1 G.2 cX1⟩
    have S4 : St V4 92 q := S2.keep fun k hk => by rw [hV4, up2_na (by omega), up2_na (by omega)]
    refine c_copy StA_81 StA_92 (by omega) (by rw [d92]; exact hl) (fun V5 hC5 => ?_)
    show RY d 125 94 _ _ V5 _ Q
    refine u_125_94 ?_
    rintro V6 hV6 V7 hV7
    have S5 : St V5 81 q := hC5.st S4
    have e5 : V5 81 10 = p 0 := S5.2.2.2.2.2.2.2.2.2.2.1.trans hk.1
    have e9 : wr (p 0 + 1) = p 0 + 1 := wr_id (by omega) (by omega)
    rw [e5, e9] at hV6
    have e7 : V7 81 10 = p 0 + 1 := by rw [hV7, up2_na (by decide), hV6, up2_at]
    rw [e7]
    clear e9
    have o5 : ∀ a, ¬ (81 ≤ a ∧ a ≤ 91) → V5 a = V4 a := fun a ha => hC5.2 a (by omega)
    refine hh.1 hlt V7 _ ⟨fun a ha g0 g1 => ?_, fun j g1 g8 => ?_, ?_, ?_, ?_, ?_⟩ ?_ ?_
    · rw [hV7, up2_na g0, hV6, up2_na (by omega), o5 a g1]; exact G.1.1 a ha g0 g1
    · rw [hV7, up2_ni g8, hV6, up2_na (by decide), o5 70 (by decide)]; exact G.1.2.1 j g1 g8
    · rw [hV7, up2_ni (by decide), hV6, up2_na (by decide), o5 70 (by decide)]; exact G.1.2.2.1
    · rw [hV7, up2_at]
    · rw [hV7, up2_na (by decide), hV6, up2_na (by decide), o5 76 (by decide)]; exact G.1.2.2.2.2.1
    · rw [hV7, up2_na (by decide), hV6, up2_na (by decide), o5 405 (by decide)]; exact G.1.2.2.2.2.2
    · have := st_texts (s := 81) (z := p 0 + 1) S5
      exact this.keep fun k hk => by rw [hV7, up2_na (by omega), hV6]
    · refine ⟨fun a ha => ?_, cD1.2.1, cD1.2.2.1, cD1.2.2.2.1, cD1.2.2.2.2⟩
      show up1 D1.2.1 81 (D1.2.1 92) a = D.2.1 a
      unfold up1
      by_cases e : a = 81
      · rw [if_pos e, d92, e]
      · rw [if_neg e]; exact cD1.1 a ha
  · intro V2 N T e hTb hT hp hC2 hR
    have hh := h N T hTb hT
    rw [hp] at hh
    have hh : ∀ V' D', HouC V V' (T.2.2.1 e) (V 70 8) → St V' 81 p → CorD D D' → Q (.inr 0) V' D' := hh
    obtain ⟨b1, b2, b3, b4, b5, b6, b7, b8, b9⟩ := id hC2
    have hN := b4.1
    have ey : yr_227 V2 D1 = T.2.2.1 e := by unfold yr_227; rw [b1, nn_toNat, b6]
    show RY d 125 22 _ _ V2 D1 Q
    refine u_125_22 ⟨fun _ => ⟨by unfold yg_227; rw [b1]; omega, fun V3 hV3 => ?_⟩, fun h9 => absurd rfl h9⟩
    rw [ey] at hV3
    refine cut V2 V3 0 _ hR hV3 fun V4 hV4 => ?_
    rw [hV3] at hV4
    have G := gone V2 V4 _ hR hV4
    exact u_125_50 ⟨fun h9 => absurd rfl h9, fun _ => hh V4 _ G.1 G.2 cX1⟩
end CHREAD
