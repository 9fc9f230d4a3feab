/-! ===== LAW: THE CLASS ===== -/
/-- what a reading of a law leaves -/
def LawC (V V' : xF) (f c : Int) : Prop := (∀ j, j ≠ 1 → j ≠ 8 → V' 70 j = V 70 j) ∧ V' 70 1 = f ∧ V' 70 8 = c ∧ V' 76 1 = 0 ∧ V' 405 = V 405
theorem LO_made {n e : Nat} {V V' : xF} {D' : yD} {kd : Nat → Nat × Nat} {ls : List Ln} (hn : 421 ≤ n) (he : e = ofA ls ls.length) (hok : (∀ x ∈ ls, lnOK x) ∧ ls.length ≤ 12 ∧ ofA ls ls.length ≤ 800) (hA : LA V ls)
    (a2 : V' n 0 = (ls.length : Int)) (a3 : ∀ j, j < ls.length → V' (n + 1) j = V 249 j) (a4 : ∀ j, j < ls.length → V' (n + 2) j = V 250 j) (a5 : ∀ j, j < ls.length → V' (n + 3) j = V 251 j) (a6 : ∀ j, j < e → V' (n + 4) j = V 252 j) (hk : D'.2.2.1 = madK kd n ls.length e) : LO V' D' n ls := by
  obtain ⟨o1, o2, o3⟩ := hok
  have k0 : D'.2.2.1 n = (3, 0) := by rw [hk]; unfold madK; rw [if_pos rfl]
  have kj : ∀ j, 1 ≤ j → j ≤ 3 → D'.2.2.1 (n + j) = (20, ls.length) := fun j g1 g2 => by rw [hk]; unfold madK; rw [if_neg (by omega), if_neg (by omega), if_pos (by omega)]
  have k4 : D'.2.2.1 (n + 4) = (20, e) := by rw [hk]; unfold madK; rw [if_neg (by omega), if_pos rfl]
  have r : ∀ j, 1 ≤ j → j ≤ 4 → yR D'.2.1 D'.2.2.1 n j = n + j := fun j g1 g2 => by rw [yR_ge hn, k0, if_pos ⟨rfl, g1, g2⟩]
  have ar : ∀ j, 1 ≤ j → j ≤ 3 → AR D' n j ls.length := fun j g1 g2 => by
    unfold AR
    rw [r j g1 (by omega), yK_ge (by omega), kj j g1 g2]
    exact ⟨by omega, ⟨by show 20 ≤ 20; decide, by show 20 ≤ 21; decide⟩, Nat.le_refl _, by omega⟩
  have ar4 : AR D' n 4 (ofA ls ls.length) := by
    unfold AR
    rw [r 4 (by omega) (by omega), yK_ge (by omega), k4]
    exact ⟨by omega, ⟨by show 20 ≤ 20; decide, by show 20 ≤ 21; decide⟩, by show _ ≤ e; omega, by omega⟩
  refine ⟨by omega, by rw [yK_ge hn, k0], o1, o2, o3, Or.inr ⟨hn, a2, ar 1 (by omega) (by omega), ar 2 (by omega) (by omega), ar 3 (by omega) (by omega), ar4, ?_⟩⟩
  rw [r 1 (by omega) (by omega), r 2 (by omega) (by omega), r 3 (by omega) (by omega), r 4 (by omega) (by omega)]
  intro k hk'
  obtain ⟨b1, b2, b3, b4⟩ := hA.2.2 k hk'
  have e1 := ofA_succ hk'
  have e2 := ofA_mono (ls := ls) (k := k + 1) (by omega)
  exact ⟨(a3 k hk').trans b1, fun h => (a4 k hk').trans (b2 h), (a5 k hk').trans b3, fun q hq => (a6 _ (by omega)).trans (b4 q hq)⟩
theorem LA_end {V : xF} {ls : List Ln} (hA : LA V ls) : ls.length = 0 ∧ ofA ls ls.length = 0 ∨ 1 ≤ ls.length ∧ V 251 (ls.length - 1) = ((ofA ls ls.length : Nat) : Int) := by
  by_cases h : ls.length = 0
  · refine Or.inl ⟨h, ?_⟩
    rw [List.length_eq_zero_iff.mp h]
    rfl
  · refine Or.inr ⟨by omega, ?_⟩
    rw [(hA.2.2 (ls.length - 1) (by omega)).2.2.1, show ls.length - 1 + 1 = ls.length by omega]
section LAWAPI
variable {d : Nat} {D : yD} {Q : xRes → xF → yD → Prop} {m : Nat}
theorem ca_law {V : xF} {b : Nat → Int} (hd : 20 ≤ d) (hm : V 76 1 = (m : Int)) (hm4 : m ≤ 400) (hb : ∀ k, k < 400 → V 77 k = b k) (hV : Ws V) (hN : 421 ≤ D.2.2.2.1)
    (h : ∀ N T, T.1 = b → okT T m N → qOk (pLaw T N)
      (fun _ ls => ∀ V' D' L, 421 ≤ L → L = D.2.2.2.1 → (∀ a, coreA a = true → a ≠ 70 → a < L → V' a = V a) → LawC V V' (-1) 0 → LO V' D' L ls → V' L 0 = (ls.length : Int) → (∀ a, a < L → D'.1 a = D.1 a) → D'.2.1 = up1 D.2.1 81 L → (∀ a, a < L → D'.2.2.1 a = D.2.2.1 a) → D'.2.2.2.1 = L + 5 → D'.2.2.2.2.1 ≤ D.2.2.2.2.1 + 5 → D'.2.2.2.2.2 ≤ D.2.2.2.2.2 + 900 → Q (.inl (some (vi (ls.length : Int)))) V' D')
      (fun e => ∀ V', (∀ a, coreA a = true → a ≠ 70 → V' a = V a) → LawC V V' (T.2.2.1 e) (V 70 8) → Q (.inr 0) V' (excD D))) : RY d 130 0 [vr 70, vr 0] [] V D Q := by
  have cR : ∀ V1, RdC V V1 → (∀ a, coreA a = true → V1 a = V a) ∧ V1 405 = V 405 ∧ V1 76 1 = (m : Int) := fun V1 hR => by
    refine ⟨fun a ha => hR.1.at_ a ?_, hR.1.at_ 405 (by decide), by rw [hR.2.1 1 (by decide) (by decide)]; exact hm⟩
    have ha := coreA_iff ha
    simp only [List.mem_cons, List.not_mem_nil, or_false]
    rintro (e | e | e | e | e | e | e | e | e) <;> omega
  have core76 : ∀ a, coreA a = true → a ≠ 76 := fun a ha e => by rw [e] at ha; exact absurd ha (by decide)
  refine u_130_0 (c_lread hd hm hm4 hb hV ?_ ?_)
  · intro V1 N T ls hTb hT hp hA hR
    have hh := h N T hTb hT
    have hok := pLaw_ok hT hm4
    rw [hp] at hh hok
    obtain ⟨c1, c2, c3⟩ := cR V1 hR
    have o3 : ofA ls ls.length ≤ 800 := by unfold ofA; rw [List.take_of_length_le (Nat.le_refl _)]; exact hok.2.2
    show RY d 130 7 _ _ V1 D Q
    refine u_130_7 ⟨fun h9 => absurd h9 (by decide), fun _ V2 hV2 => ?_⟩
    refine u_123_0 ⟨fun hn => absurd hn (by decide), fun _ => ⟨fun _ V3 hV3 => ?_, fun hlt => absurd hlt (by rw [hV2, up2_na (by decide), c3]; omega)⟩⟩
    show RY d 130 35 _ _ V3 D Q
    refine u_130_35 ⟨fun _ => ?_, fun h9 => absurd h9 (by decide)⟩
    have o : ∀ a, a ≠ 70 → a ≠ 76 → V3 a = V1 a := fun a g0 g1 => by rw [hV3, up2_na g1, hV2, up2_na g0]
    have A3 : LA V3 ls := by
      refine ⟨by rw [o 248 (by decide) (by decide)]; exact hA.1, by rw [o 248 (by decide) (by decide)]; exact hA.2.1, ?_⟩
      rw [o 249 (by decide) (by decide), o 250 (by decide) (by decide), o 251 (by decide) (by decide), o 252 (by decide) (by decide)]
      exact hA.2.2
    refine law_made (n := D.2.2.2.1) (l := ls.length) (e := ofA ls ls.length) rfl hN hok.2.1 o3 A3.1 (LA_end A3) ?_
    intro V4 D4 a1 a2 a3 a4 a5 a6 a7 a8 a9 a10
    have hL := LO_made (V := V3) hN rfl ⟨hok.1, hok.2.1, o3⟩ A3 a2 a3 a4 a5 a6 a9
    show RY d 130 59 _ [vr D.2.2.2.1, vr 81] V4 D4 Q
    refine u_130_59 ⟨rfl, by omega, rfl, ?_⟩
    rintro D5 hD5 V5 hV5
    have d81 : D5.2.1 81 = D.2.2.2.1 := by rw [hD5]; show up1 D4.2.1 81 D.2.2.2.1 81 = _; rw [up1_at]
    have k5 : D5.2.2 = D4.2.2 := by rw [hD5]
    have l5 : LO V5 D5 D.2.2.2.1 ls := by
      have e1 : ∀ j, j = 1 ∨ j = 2 ∨ j = 3 ∨ j = 4 → yR D5.2.1 D5.2.2.1 D.2.2.2.1 j = yR D4.2.1 D4.2.2.1 D.2.2.2.1 j := fun j hj => by rw [k5, yR_ge hN, yR_ge hN]
      have := hL.cor (V' := V5) (fun a ha => by rw [hV5, up2_na (by omega)])
      unfold LO LRows AR at this ⊢
      rw [e1 1 (by omega), e1 2 (by omega), e1 3 (by omega), e1 4 (by omega), k5]
      exact this
    refine ⟨rfl, by rw [d81]; omega, by rw [d81]; exact l5.2.1, ?_⟩
    have v5 : V5 D.2.2.2.1 0 = (ls.length : Int) := by rw [hV5, up2_na (by omega)]; exact a2
    rw [d81, v5]
    have hh : ∀ V' D' L, 421 ≤ L → L = D.2.2.2.1 → (∀ a, coreA a = true → a ≠ 70 → a < L → V' a = V a) → LawC V V' (-1) 0 → LO V' D' L ls → V' L 0 = (ls.length : Int) → (∀ a, a < L → D'.1 a = D.1 a) → D'.2.1 = up1 D.2.1 81 L → (∀ a, a < L → D'.2.2.1 a = D.2.2.1 a) → D'.2.2.2.1 = L + 5 → D'.2.2.2.2.1 ≤ D.2.2.2.2.1 + 5 → D'.2.2.2.2.2 ≤ D.2.2.2.2.2 + 900 → Q (.inl (some (vi (ls.length : Int)))) V' D' := hh
    have c70 : ∀ j, V1 70 j = V 70 j := fun j => by rw [c1 70 (by decide)]
    refine hh V5 D5 _ hN rfl (fun a ha g0 g1 => ?_) ⟨fun j g1 g8 => ?_, ?_, ?_, ?_, ?_⟩ l5 v5 (fun a ha => ?_) ?_ (fun a ha => ?_) ?_ ?_ ?_
    · rw [hV5, up2_na g0, a1 a (Or.inl g1), o a g0 (core76 a ha), c1 a ha]
    · rw [hV5, up2_ni g8, a1 70 (Or.inl (by omega)), hV3, up2_na (by decide), hV2, up2_ni g1, c70]
    · rw [hV5, up2_ni (by decide), a1 70 (Or.inl (by omega)), hV3, up2_na (by decide), hV2, up2_at]
    · rw [hV5, up2_at]
    · rw [hV5, up2_na (by decide), a1 76 (Or.inl (by omega)), hV3, up2_at]
    · rw [hV5, up2_na (by decide), a1 405 (Or.inl (by omega)), o 405 (by decide) (by decide), c2]
    · rw [hD5]; exact a7 a ha
    · rw [hD5]; show up1 D4.2.1 81 D.2.2.2.1 = _; rw [a8]
    · rw [k5, a9]; unfold madK; rw [if_neg (by omega), if_neg (by omega), if_neg (by omega)]
    · rw [k5, a10]
    · rw [k5, a10]; exact Nat.le_refl _
    · have l12 : ls.length ≤ 12 := hok.2.1
      rw [k5, a10]; show _ + 5 + _ + _ + _ + _ ≤ _; omega
  · intro V1 N T e hTb hT hp hC hR
    have hh := h N T hTb hT
    rw [hp] at hh
    have hh : ∀ V', (∀ a, coreA a = true → a ≠ 70 → V' a = V a) → LawC V V' (T.2.2.1 e) (V 70 8) → Q (.inr 0) V' (excD D) := hh
    obtain ⟨c1, c2, c3⟩ := cR V1 hR
    obtain ⟨b1, b2, b3, b4, b5, b6, b7, b8, b9⟩ := id hC
    have hNN := b4.1
    have ey : yr_227 V1 D = T.2.2.1 e := by unfold yr_227; rw [b1, nn_toNat, b6]
    show RY d 130 7 _ _ V1 D Q
    refine u_130_7 ⟨fun _ => ⟨by unfold yg_227; rw [b1]; omega, fun V2 hV2 => ?_⟩, fun h9 => absurd rfl h9⟩
    rw [ey] at hV2
    refine u_123_0 ⟨fun hn => absurd hn (by decide), fun _ => ⟨fun _ V3 hV3 => ?_, fun hlt => absurd hlt (by rw [hV2, up2_na (by decide), c3]; omega)⟩⟩
    show RY d 130 35 _ _ V3 D Q
    refine u_130_35 ⟨fun h9 => absurd rfl h9, fun _ => ?_⟩
    refine hh V3 (fun a ha g0 => ?_) ⟨fun j g1 g8 => ?_, ?_, ?_, ?_, ?_⟩
    · rw [hV3, up2_na (core76 a ha), hV2, up2_na g0, c1 a ha]
    · rw [hV3, up2_na (by decide), hV2, up2_ni g1, c1 70 (by decide)]
    · rw [hV3, up2_na (by decide), hV2, up2_at]
    · rw [hV3, up2_na (by decide), hV2, up2_ni (by decide), c1 70 (by decide)]
    · rw [hV3, up2_at]
    · rw [hV3, up2_na (by decide), hV2, up2_na (by decide), c2]
end LAWAPI
