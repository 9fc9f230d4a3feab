/-! ===== THE CLASS READS A CONDITION ===== -/
/-- a text in things lies on the tape -/
def CL (V : xF) (T : TK) (m N i : Nat) : Prop := V 76 5 = (i : Int) ∧ i ≤ N ∧ m ≤ 400 ∧ okT T m N ∧ V 78 = T.2.1 ∧ V 79 = T.2.2.1 ∧ V 80 = T.2.2.2 ∧ (∀ k, k < 400 → V 77 k = T.1 k) ∧ Ws V
/-- code has been put down -/
def CS (V V' : xF) (l : List Int) : Prop := V' 248 6 = V 248 6 + (l.length : Int) ∧ (∀ k : Nat, (k : Int) < V 248 6 → V' 252 k = V 252 k) ∧ (∀ k : Nat, k < l.length → V' 252 ((V 248 6).toNat + k) = l.getD k 0) ∧ Fr [76, 248, 252] V V' ∧ (∀ j, j ≠ 6 → V' 248 j = V 248 j) ∧ (∀ j, j ≠ 5 → j ≠ 6 → V' 76 j = V 76 j)
def CF (V V' : xF) : Prop := 0 ≤ V' 248 6 ∧ Fr [76, 248, 252] V V' ∧ (∀ j, j ≠ 6 → V' 248 j = V 248 j) ∧ (∀ j, j ≠ 5 → j ≠ 6 → V' 76 j = V 76 j)
theorem CS.tr {V V' V2 : xF} {l l' : List Int} (h0 : 0 ≤ V 248 6) (h : CS V V' l) (h' : CS V' V2 l') : CS V V2 (l ++ l') := by
  obtain ⟨a1, a2, a3, a4, a5, a6⟩ := h
  obtain ⟨b1, b2, b3, b4, b5, b6⟩ := h'
  refine ⟨by rw [b1, a1, List.length_append]; omega, fun k hk => by rw [b2 k (by omega)]; exact a2 k hk, fun k hk => ?_, a4.tr b4, fun j hj => (b5 j hj).trans (a5 j hj), fun j h1 h2 => (b6 j h1 h2).trans (a6 j h1 h2)⟩
  rw [List.length_append] at hk
  by_cases hk1 : k < l.length
  · rw [b2 _ (by omega), a3 k hk1, List.getD_eq_getElem?_getD, List.getD_eq_getElem?_getD, List.getElem?_append_left hk1]
  · have := b3 (k - l.length) (by omega)
    rw [show (V' 248 6).toNat + (k - l.length) = (V 248 6).toNat + k by omega] at this
    rw [this, List.getD_eq_getElem?_getD, List.getD_eq_getElem?_getD, List.getElem?_append_right (by omega)]
theorem CS.cf {V V' : xF} {l : List Int} (h0 : 0 ≤ V 248 6) (h : CS V V' l) : CF V V' := ⟨by rw [h.1]; omega, h.2.2.2.1, h.2.2.2.2.1, h.2.2.2.2.2⟩
theorem CF.tr {V V' V2 : xF} (h : CF V V') (h' : CF V' V2) : CF V V2 := ⟨h'.1, h.2.1.tr h'.2.1, fun j hj => (h'.2.2.1 j hj).trans (h.2.2.1 j hj), fun j h1 h2 => (h'.2.2.2 j h1 h2).trans (h.2.2.2 j h1 h2)⟩
theorem CS.rf {V : xF} : CS V V [] := ⟨by show _ = _ + 0; omega, fun _ _ => rfl, fun k hk => absurd hk (Nat.not_lt_zero k), Fr.rf, fun _ _ => rfl, fun _ _ _ => rfl⟩
/-- only where one is has changed -/
theorem CS.at5 {V : xF} {z : Int} : CS V (up2 V 76 5 z) [] := ⟨by rw [up2_na (by decide)]; show _ = _ + 0; omega, fun _ _ => by rw [up2_na (by decide)], fun k hk => absurd hk (Nat.not_lt_zero k), Fr.up (by decide), fun _ _ => by rw [up2_na (by decide)], fun j h1 _ => up2_ni h1⟩
theorem CS.at6 {V : xF} {y z : Int} : CS V (up2 (up2 V 76 6 y) 76 5 z) [] := ⟨by rw [up2_na (by decide), up2_na (by decide)]; show _ = _ + 0; omega, fun _ _ => by rw [up2_na (by decide), up2_na (by decide)], fun k hk => absurd hk (Nat.not_lt_zero k), (Fr.up (by decide)).tr (Fr.up (by decide)), fun _ _ => by rw [up2_na (by decide), up2_na (by decide)], fun j h1 h2 => by rw [up2_ni h1, up2_ni h2]⟩
theorem CS.emit {V : xF} {z : Int} (h0 : 0 ≤ V 248 6) (h8 : V 248 6 < 800) : CS V (up2 (up2 V 252 (V 248 6).toNat z) 248 6 (wr ((up2 V 252 (V 248 6).toNat z) 248 6 + 1))) [z] := by
  have e : (up2 V 252 (V 248 6).toNat z) 248 6 = V 248 6 := by rw [up2_na (by decide)]
  rw [e, wr_id (by omega) (by omega)]
  refine ⟨by rw [up2_at]; rfl, fun k hk => by rw [up2_na (by decide), up2_ni (by omega)], fun k hk => ?_, (Fr.up (by decide)).tr (Fr.up (by decide)), fun j hj => by rw [up2_ni hj, up2_na (by decide)], fun j _ _ => by rw [up2_na (by decide), up2_na (by decide)]⟩
  have : k = 0 := by have : k < 1 := hk; omega
  subst this
  rw [up2_na (by decide), Nat.add_zero, up2_at]
  rfl
section CLAW
variable {V : xF} {D : yD} {T : TK} {m N : Nat} {Q : xRes → xF → yD → Prop}
theorem CL.ct {V : xF} {i : Nat} (h : CL V T m N i) : CT V T.1 m N i := by
  obtain ⟨a1, a2, a3, a4, a5, a6, a7, a8, a9⟩ := h
  exact ⟨a1, a2, a3, by rw [a5, a6, a7]; exact a4, a8⟩
theorem CL.up {V : xF} {i i' : Nat} (h : CL V T m N i) (hi : i' ≤ N) : CL (up2 V 76 5 (i' : Int)) T m N i' := by
  obtain ⟨a1, a2, a3, a4, a5, a6, a7, a8, a9⟩ := h
  exact ⟨up2_at _ _ _ _, hi, a3, a4, by rw [up2_na (by decide)]; exact a5, by rw [up2_na (by decide)]; exact a6, by rw [up2_na (by decide)]; exact a7, fun k hk => by rw [up2_na (by decide)]; exact a8 k hk, fun a h1 h2 j => by rw [up2_na (by omega)]; exact a9 a h1 h2 j⟩
theorem CL.keep {V V' : xF} {i : Nat} (h : CL V T m N i) (F : Fr [76, 248, 249, 250, 251, 252] V V') (h5 : V' 76 5 = V 76 5) : CL V' T m N i := by
  obtain ⟨a1, a2, a3, a4, a5, a6, a7, a8, a9⟩ := h
  exact ⟨by rw [h5]; exact a1, a2, a3, a4, by rw [F.at_ 78 (by decide)]; exact a5, by rw [F.at_ 79 (by decide)]; exact a6, by rw [F.at_ 80 (by decide)]; exact a7, fun k hk => by rw [F.at_ 77 (by decide)]; exact a8 k hk, fun a h1 h2 j => by rw [F.at_ a (by simp only [List.mem_cons, List.not_mem_nil, or_false]; omega)]; exact a9 a h1 h2 j⟩
theorem CL.emit {V : xF} {i : Nat} {z w : Int} {k : Nat} (h : CL V T m N i) : CL (up2 (up2 V 252 k z) 248 6 w) T m N i := h.keep ((Fr.up (by decide)).tr (Fr.up (by decide))) (by rw [up2_na (by decide), up2_na (by decide)])
theorem CL.pW {V : xF} {d i w : Nat} (h : CL V T m N i) (hw1 : 3 ≤ w) (hw2 : w < 70) (h1 : i < N → kW T i (wdS w) → Q (.inl (some (vi 1))) (up2 V 76 5 (((i + 1 : Nat)) : Int)) D) (h0 : ¬ kW T i (wdS w) → Q (.inl (some (vi 0))) V D) : RY d 352 0 [vr 76, vr w] [] V D Q := by
  obtain ⟨a1, a2, a3, a4, a5, a6, a7, a8, a9⟩ := id h
  have c := c_passWord (Q := Q) (D := D) (d := d) h.ct hw1 hw2 (a9 w hw1 hw2)
  rw [a5, a6, a7] at c
  exact c h1 h0
theorem CL.iW {V : xF} {d i w : Nat} (h : CL V T m N i) (hw1 : 3 ≤ w) (hw2 : w < 70) (h1 : kW T i (wdS w) → Q (.inl (some (vi 1))) V D) (h0 : ¬ kW T i (wdS w) → Q (.inl (some (vi 0))) V D) : RY d 349 0 [vr 76, vr w, vr 0] [] V D Q := by
  obtain ⟨a1, a2, a3, a4, a5, a6, a7, a8, a9⟩ := id h
  have c := c_isWord (Q := Q) (D := D) (d := d) h.ct hw1 hw2 (a9 w hw1 hw2)
  rw [a5, a6, a7] at c
  exact c h1 h0
theorem CL.pS {V : xF} {d i : Nat} {c : Int} (h : CL V T m N i) (h1 : i < N → kS T i c → Q (.inl (some (vi 1))) (up2 V 76 5 (((i + 1 : Nat)) : Int)) D) (h0 : ¬ kS T i c → Q (.inl (some (vi 0))) V D) : RY d 300 0 [vr 76, vi c] [] V D Q := by
  obtain ⟨a1, a2, a3, a4, a5, a6, a7, a8, a9⟩ := id h
  have c := c_passSign (Q := Q) (D := D) (d := d) (c := c) h.ct
  rw [a5, a6] at c
  exact c h1 h0
theorem CL.pN {V : xF} {d i : Nat} {lo hi : Int} (hlo : 0 ≤ lo) (h : CL V T m N i) (h1 : ∀ v, i < N → kN T i lo hi v → Q (.inl (some (vi 1))) (up2 (up2 V 76 6 v) 76 5 (((i + 1 : Nat)) : Int)) D) (h0 : (∀ v, ¬ kN T i lo hi v) → Q (.inl (some (vi 0))) V D) : RY d 362 0 [vr 76, vi lo, vi hi, vr 0] [] V D Q := by
  obtain ⟨a1, a2, a3, a4, a5, a6, a7, a8, a9⟩ := id h
  have c := c_passNumber (Q := Q) (D := D) (d := d) (hi := hi) hlo h.ct
  rw [a5, a6, a7] at c
  exact c h1 h0
theorem CL.sg {V : xF} {i : Nat} {c : Int} (h : CL V T m N i) : yg_357 c V D ∧ (kS T i c → yr_357 c V D = 1) ∧ (¬ kS T i c → yr_357 c V D = 0) := by
  obtain ⟨a1, a2, a3, hT, a5, a6, a7, a8, a9⟩ := h
  have hN := hT.1
  have hb := hT.bnd a2
  have ey : yr_357 c V D = if T.2.1 i = 0 then (if T.1 (T.2.2.1 i).toNat = c then 1 else 0) else 0 := by
    unfold yr_357
    rw [a1, nn_toNat, a5, a6]
    by_cases h0 : T.2.1 i = 0
    · have hlt := hT.lt a2 (by rw [h0]; decide)
      have := hb.2.2.2 hlt
      rw [if_pos h0, if_pos h0, a8 _ (by omega)]
    · rw [if_neg h0, if_neg h0]
  refine ⟨?_, fun h1 => ?_, fun h1 => ?_⟩
  · unfold yg_357
    rw [a1, nn_toNat, a5, a6]
    refine ⟨by omega, fun h0 => ?_⟩
    have hlt := hT.lt a2 (by rw [h0]; decide)
    have := hb.2.2.2 hlt
    omega
  · rw [ey, if_pos h1.1, if_pos h1.2]
  · rw [ey]
    by_cases h5 : T.2.1 i = 0
    · rw [if_pos h5, if_neg (fun h6 => h1 ⟨h5, h6⟩)]
    · rw [if_neg h5]
/-- code is put down where there is space -/
theorem em {P : xF → Prop} {z : Int} (h0 : 0 ≤ V 248 6) (h8 : V 248 6 < 800) (h : CS V (up2 (up2 V 252 (V 248 6).toNat z) 248 6 (wr ((up2 V 252 (V 248 6).toNat z) 248 6 + 1))) [z] → P (up2 (up2 V 252 (V 248 6).toNat z) 248 6 (wr ((up2 V 252 (V 248 6).toNat z) 248 6 + 1)))) :
    ((800 : Int) ≤ V 248 6 → P V) ∧ (V 248 6 < 800 → (((0 : Int) ≤ V 248 6 ∧ V 248 6 < (800 : Int)) ∧ (∀ V1 : xF, V1 = up2 V 252 ((V 248 6).toNat) z → ∀ V2 : xF, V2 = up2 V1 248 6 (wr ((V1 248 6) + 1)) → P V2))) := by
  refine ⟨fun h9 => by omega, fun _ => ⟨by omega, ?_⟩⟩
  rintro V1 rfl V2 rfl
  exact h (CS.emit h0 h8)
/-- or not -/
theorem emF {P : xF → Prop} {z : Int} (h0 : 0 ≤ V 248 6) (h : ∀ V2, CF V V2 → (V2 76 5 = V 76 5) → P V2) :
    ((800 : Int) ≤ V 248 6 → P V) ∧ (V 248 6 < 800 → (((0 : Int) ≤ V 248 6 ∧ V 248 6 < (800 : Int)) ∧ (∀ V1 : xF, V1 = up2 V 252 ((V 248 6).toNat) z → ∀ V2 : xF, V2 = up2 V1 248 6 (wr ((V1 248 6) + 1)) → P V2))) := by
  refine ⟨fun _ => h V (CS.rf.cf h0) rfl, fun h8 => ⟨by omega, ?_⟩⟩
  rintro V1 rfl V2 rfl
  exact h _ ((CS.emit h0 h8).cf h0) (by rw [up2_na (by decide), up2_na (by decide)])
theorem CF.cl {V V' : xF} {i : Nat} (h : CL V T m N i) (hF : CF V V') (h5 : V' 76 5 = V 76 5) : CL V' T m N i := h.keep (hF.2.1.sub (by decide)) h5
abbrev qS (V : xF) (D : yD) (T : TK) (m N : Nat) (Q : xRes → xF → yD → Prop) : Nat → List Int → Prop := fun j l => ∀ V2, CL V2 T m N j → CS V V2 l → Q (.inl (some (vi 1))) V2 D
abbrev qF (V : xF) (D : yD) (T : TK) (m N : Nat) (Q : xRes → xF → yD → Prop) : Nat → Prop := fun e => ∀ V2, CL V2 T m N e → CF V V2 → Q (.inl (some (vi 0))) V2 D
theorem wd_eq : wdS 37 = wdS 54 ∧ wdS 38 = wdS 55 ∧ wdS 26 = wdS 43 ∧ wdS 27 = wdS 44 ∧ wdS 28 = wdS 45 ∧ (∀ k : Fin 8, wdS (29 + k.1) = nmW k.1) ∧ wdS 22 = wdS 41 ∧ wdS 23 = wdS 39 ∧ wdS 24 = wdS 40 ∧ wdS 25 = wdS 42 := by decide +kernel
theorem nmW_inj : ∀ j k : Fin 8, nmW j.1 = nmW k.1 → j = k := by decide +kernel
/-- a part of a sum -/
theorem pPart_w {i k : Nat} (hk : k < 8) (h : kW T i (nmW k)) : pPart T i = some (1000 + (k : Int)) := by
  unfold pPart
  have hn : ¬ ∃ v, kN T i 0 999 v := fun ⟨v, hv⟩ => by have a := hv.1; have b := h.1; rw [a] at b; omega
  rw [if_neg hn]
  have ne : ∀ j, j < 8 → j ≠ k → ¬ kW T i (nmW j) := fun j hj hne hw => hne (congrArg Fin.val (nmW_inj ⟨j, hj⟩ ⟨k, hk⟩ (tW_uni hw h)))
  have : k = 0 ∨ k = 1 ∨ k = 2 ∨ k = 3 ∨ k = 4 ∨ k = 5 ∨ k = 6 ∨ k = 7 := by omega
  rcases this with e | e | e | e | e | e | e | e <;> subst e
  · rw [if_pos h]; rfl
  · rw [if_neg (ne 0 (by omega) (by omega)), if_pos h]; rfl
  · rw [if_neg (ne 0 (by omega) (by omega)), if_neg (ne 1 (by omega) (by omega)), if_pos h]; rfl
  · rw [if_neg (ne 0 (by omega) (by omega)), if_neg (ne 1 (by omega) (by omega)), if_neg (ne 2 (by omega) (by omega)), if_pos h]; rfl
  · rw [if_neg (ne 0 (by omega) (by omega)), if_neg (ne 1 (by omega) (by omega)), if_neg (ne 2 (by omega) (by omega)), if_neg (ne 3 (by omega) (by omega)), if_pos h]; rfl
  · rw [if_neg (ne 0 (by omega) (by omega)), if_neg (ne 1 (by omega) (by omega)), if_neg (ne 2 (by omega) (by omega)), if_neg (ne 3 (by omega) (by omega)), if_neg (ne 4 (by omega) (by omega)), if_pos h]; rfl
  · rw [if_neg (ne 0 (by omega) (by omega)), if_neg (ne 1 (by omega) (by omega)), if_neg (ne 2 (by omega) (by omega)), if_neg (ne 3 (by omega) (by omega)), if_neg (ne 4 (by omega) (by omega)), if_neg (ne 5 (by omega) (by omega)), if_pos h]; rfl
  · rw [if_neg (ne 0 (by omega) (by omega)), if_neg (ne 1 (by omega) (by omega)), if_neg (ne 2 (by omega) (by omega)), if_neg (ne 3 (by omega) (by omega)), if_neg (ne 4 (by omega) (by omega)), if_neg (ne 5 (by omega) (by omega)), if_neg (ne 6 (by omega) (by omega)), if_pos h]; rfl
theorem pPart_0 {i : Nat} (hn : ∀ v, ¬ kN T i 0 999 v) (hw : ∀ k, k < 8 → ¬ kW T i (nmW k)) : pPart T i = none := by
  unfold pPart
  rw [if_neg (fun ⟨v, hv⟩ => hn v hv), if_neg (hw 0 (by omega)), if_neg (hw 1 (by omega)), if_neg (hw 2 (by omega)), if_neg (hw 3 (by omega)), if_neg (hw 4 (by omega)), if_neg (hw 5 (by omega)), if_neg (hw 6 (by omega)), if_neg (hw 7 (by omega))]
theorem pPart_n {i : Nat} {v : Int} (h : kN T i 0 999 v) : pPart T i = some v := by
  unfold pPart
  have hx : ∃ v, kN T i 0 999 v := ⟨v, h⟩
  rw [if_pos hx]
  exact congrArg some (tN_uni (Classical.epsilon_spec hx) h)
theorem c_sum {V0 : xF} (h00 : 0 ≤ V0 248 6) (hN4 : N ≤ 400) : ∀ (n i k d : Nat) (V1 : xF) (l0 : List Int) (v2 v3 : xV), N < n + i → 2 * k ≤ i → CL V1 T m N i → CS V0 V1 l0 → 0 ≤ V1 248 6 → V1 248 6 ≤ 2 * (i : Int) → rOk (bN (pSum T n i) (fun j l => (j, some (l0 ++ l)))) (qS V0 D T m N Q) (qF V0 D T m N Q) → RY d 377 2 [vr 248, vi (k : Int), v2, v3] [] V1 D Q := by
  intro n
  induction n with
  | zero => intro i k d V1 l0 v2 v3 hn hk hC; have := hC.2.1; omega
  | succ n ih =>
    intro i k d V1 l0 v2 v3 hn hk hC hS h0 hlen h
    obtain ⟨a1, a2, a3, hT, a5, a6, a7, a8, a9⟩ := id hC
    unfold pSum at h
    refine u_377_2 ⟨fun h5 => by omega, fun _ => ?_⟩
    -- behind a part that has been put down
    have more : ∀ (c : Int) (V2 : xF) (v2 v3 : xV), i < N → pPart T i = some c → CL V2 T m N (i + 1) → CS V1 V2 [c] → RY d 300 0 [vr 76, vi 43] [] V2 D (yback d 377 110 [vr 248, vi (k : Int), v2, v3] [] Q) := by
      intro c V2 v2 v3 hlt hp hC2 hS2
      rw [hp] at h
      dsimp only at h
      have hS02 := CS.tr h00 hS hS2
      have hl2 : V2 248 6 = V1 248 6 + 1 := hS2.1
      refine hC2.pS (fun hlt2 ht => u_377_110 ⟨fun _ => ?_, fun h5 => absurd h5 (by decide)⟩) (fun ht => u_377_110 ⟨fun h5 => absurd rfl h5, fun _ => ?_⟩)
      · rw [pif_y ht, rOk_bN, rOk_bN] at h
        rw [wr_id (by omega) (by omega), show (k : Int) + 1 = (((k + 1 : Nat)) : Int) by omega]
        refine ih (i + 2) (k + 1) d _ (l0 ++ [c]) v2 v3 (by omega) (by omega) (hC2.up hlt2) ?_ ?_ ?_ ?_
        · have := CS.tr h00 hS02 (CS.at5 (z := (((i + 1 + 1 : Nat)) : Int)))
          rw [List.append_nil] at this
          exact this
        · rw [up2_na (by decide)]; omega
        · rw [up2_na (by decide)]; omega
        · rw [rOk_bN]
          refine rOk_mono (fun j l _ hh => ?_) (fun e _ hh => hh) h
          show qS V0 D T m N Q j (l0 ++ [c] ++ l)
          rw [List.append_assoc]
          exact hh
      · rw [pif_n ht] at h
        exact h V2 hC2 hS02
    refine hC.pN (by omega) (fun v hlt hv => u_377_20 ⟨fun h5 => absurd h5 (by decide), fun _ => ?_⟩) (fun hno => u_377_20 ⟨fun _ => ?_, fun h5 => absurd rfl h5⟩)
    · obtain ⟨W, hW⟩ : ∃ W, W = up2 (up2 V1 76 6 v) 76 5 (((i + 1 : Nat)) : Int) := ⟨_, rfl⟩
      rw [← hW]
      have hCW : CL W T m N (i + 1) := by
        rw [hW]
        have c1 : CL (up2 V1 76 6 v) T m N i := hC.keep (Fr.up (by decide)) (up2_ni (by decide))
        exact c1.up hlt
      have hSW : CS V1 W [] := by rw [hW]; exact CS.at6
      have e6 : W 76 6 = v := by rw [hW, up2_ni (by decide), up2_at]
      have eL : W 248 6 = V1 248 6 := by rw [hW, up2_na (by decide), up2_na (by decide)]
      rw [e6]
      refine em (P := fun W2 => RY d 300 0 [vr 76, vi 43] [] W2 D (yback d 377 110 [vr 248, vi (k : Int), v2, v3] [] Q)) (by omega) (by omega) (fun hE => ?_)
      exact more v _ v2 v3 hlt (pPart_n hv) hCW.emit (CS.tr h0 hSW hE)
    · -- a name
      have fin : ∀ (p : Nat) (i3 : Int), p < 8 → i < N → kW T i (nmW p) → (((p : Int) ≠ (-1) → (((800 : Int) ≤ (V1 248 6) → (((0 : Int) ≤ V1 76 5 ∧ V1 76 5 < (401 : Int)) ∧ (((V1 78 ((V1 76 5).toNat)) = 3 → RY d 300 0 [vr 76, vi 43] [] V1 D (yback d 377 110 [vr 248, vi (k : Int), vi (p : Int), vi i3] [] Q)) ∧ ((V1 78 ((V1 76 5).toNat)) ≠ 3 → ∀ V5 : xF, V5 = up2 V1 76 5 (wr ((V1 76 5) + 1)) → RY d 300 0 [vr 76, vi 43] [] V5 D (yback d 377 110 [vr 248, vi (k : Int), vi (p : Int), vi i3] [] Q))))) ∧ ((V1 248 6) < 800 → (((0 : Int) ≤ V1 248 6 ∧ V1 248 6 < (800 : Int)) ∧ (∀ V6 : xF, V6 = up2 V1 252 ((V1 248 6).toNat) (wr ((1000 : Int) + (p : Int))) → ∀ V7 : xF, V7 = up2 V6 248 6 (wr ((V6 248 6) + 1)) → (((0 : Int) ≤ V7 76 5 ∧ V7 76 5 < (401 : Int)) ∧ (((V7 78 ((V7 76 5).toNat)) = 3 → RY d 300 0 [vr 76, vi 43] [] V7 D (yback d 377 110 [vr 248, vi (k : Int), vi (p : Int), vi i3] [] Q)) ∧ ((V7 78 ((V7 76 5).toNat)) ≠ 3 → ∀ V8 : xF, V8 = up2 V7 76 5 (wr ((V7 76 5) + 1)) → RY d 300 0 [vr 76, vi 43] [] V8 D (yback d 377 110 [vr 248, vi (k : Int), vi (p : Int), vi i3] [] Q))))))))) ∧ ((p : Int) = (-1) → Q (.inl (some (vi 0))) V1 D)) := by
        intro p i3 hp hlt hw
        refine ⟨fun _ => ⟨fun h9 => by omega, fun _ => ⟨by omega, ?_⟩⟩, fun h5 => by omega⟩
        rintro V6 rfl V7 rfl
        rw [wr_id (x := 1000 + (p : Int)) (by omega) (by omega)]
        have hE := CS.emit (V := V1) (z := 1000 + (p : Int)) h0 (by omega)
        have hC7 : CL _ T m N i := hC.emit (k := (V1 248 6).toNat) (z := 1000 + (p : Int)) (w := wr ((up2 V1 252 (V1 248 6).toNat (1000 + (p : Int))) 248 6 + 1))
        generalize up2 (up2 V1 252 (V1 248 6).toNat (1000 + (p : Int))) 248 6 (wr ((up2 V1 252 (V1 248 6).toNat (1000 + (p : Int))) 248 6 + 1)) = V7 at hE hC7 ⊢
        obtain ⟨b1, b2, b3, b4, b5, b6, b7, b8, b9⟩ := id hC7
        rw [b1, nn_toNat, b5]
        refine ⟨by omega, fun h5 => ?_, fun _ => ?_⟩
        · have := hw.1; rw [h5] at this; omega
        · rintro V8 rfl
          rw [wr_id (by omega) (by omega), show (i : Int) + 1 = (((i + 1 : Nat)) : Int) by omega]
          have := CS.tr h0 hE (CS.at5 (z := (((i + 1 : Nat)) : Int)))
          rw [List.append_nil] at this
          exact more _ _ _ _ hlt (pPart_w hp hw) (hC7.up hlt) this
      have names : ∀ (c p : Nat), p + c = 8 → (∀ q, q < p → ¬ kW T i (nmW q)) → RY d 377 41 [vr 248, vi (k : Int), vi (-1), vi (p : Int)] [] V1 D Q := by
        intro c
        induction c with
        | zero =>
          intro p hp hno2
          refine u_377_41 ⟨fun _ => ⟨fun h5 => absurd rfl h5, fun _ => ?_⟩, fun h5 => by omega⟩
          rw [pPart_0 hno (fun q hq => hno2 q (by omega))] at h
          exact h V1 hC (hS.cf h00)
        | succ c ihc =>
          intro p hp hno2
          refine u_377_41 ⟨fun h5 => by omega, fun _ => ⟨fun h5 => absurd rfl h5, fun _ => ?_⟩⟩
          have wd : RY d 349 0 [vr 76, vr (29 + p), vr 0] [] V1 D (yback d 377 63 [vr 248, vi (k : Int), vi (-1), vi (p : Int)] [] Q) := by
            have e := wd_eq.2.2.2.2.2.1 ⟨p, by omega⟩
            dsimp only at e
            refine hC.iW (by omega) (by omega) (fun ht => u_377_63 ⟨fun h5 => absurd h5 (by decide), fun _ => ?_⟩) (fun ht => u_377_63 ⟨fun _ => ?_, fun h5 => absurd rfl h5⟩)
            · rw [e] at ht
              have f := fin p (((p + 1 : Nat)) : Int) (by omega) (kW_lt hT a2 ht) ht
              rw [wr_id (by omega) (by omega), show (p : Int) + 1 = (((p + 1 : Nat)) : Int) by omega]
              refine u_377_41 ⟨fun _ => f, fun _ => ⟨fun _ => f, fun h5 => by omega⟩⟩
            · rw [e] at ht
              rw [wr_id (by omega) (by omega), show (p : Int) + 1 = (((p + 1 : Nat)) : Int) by omega]
              refine ihc (p + 1) (by omega) (fun q hq => ?_)
              by_cases e2 : q = p
              · subst e2; exact ht
              · exact hno2 q (by omega)
          refine u_379_0 ⟨⟨fun e => ?_, fun e => ?_, fun e => ?_, fun e => ?_, fun e => ?_, fun e => ?_, fun e => ?_, trivial⟩, fun e => ?_⟩
          · have : p = 0 := by omega
            subst this; exact u_377_60 wd
          · have : p = 1 := by omega
            subst this; exact u_377_60 wd
          · have : p = 2 := by omega
            subst this; exact u_377_60 wd
          · have : p = 3 := by omega
            subst this; exact u_377_60 wd
          · have : p = 4 := by omega
            subst this; exact u_377_60 wd
          · have : p = 5 := by omega
            subst this; exact u_377_60 wd
          · have : p = 6 := by omega
            subst this; exact u_377_60 wd
          · have : p = 7 := by omega
            subst this; exact u_377_60 wd
      exact names 8 0 (by omega) (fun q hq => by omega)
end CLAW
