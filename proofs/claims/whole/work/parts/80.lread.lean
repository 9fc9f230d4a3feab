/-! ===== THE CLASS READS THE LAW ===== -/
def lnA (ls : List Ln) (k : Nat) : Ln := ls.getD k (0, 0, [])
def ofA (ls : List Ln) (k : Nat) : Nat := ((ls.take k).map (fun x => x.2.2.length)).sum
/-- the lines, in arrays of kinds, weights, ends, code -/
def LAr (f1 f2 f3 f4 : Nat → Int) (ls : List Ln) : Prop := ∀ k, k < ls.length → f1 k = (lnA ls k).1 ∧ ((lnA ls k).1 ≠ 2 → f2 k = (lnA ls k).2.1) ∧ f3 k = ((ofA ls (k + 1) : Nat) : Int) ∧ ∀ q, q < (lnA ls k).2.2.length → f4 (ofA ls k + q) = (lnA ls k).2.2.getD q 0
def LA (V : xF) (ls : List Ln) : Prop := V 248 5 = (ls.length : Int) ∧ V 248 6 = ((ofA ls ls.length : Nat) : Int) ∧ LAr (V 249) (V 250) (V 251) (V 252) ls
theorem ofA_app {ls : List Ln} {x : Ln} {k : Nat} (hk : k ≤ ls.length) : ofA (ls ++ [x]) k = ofA ls k := by
  unfold ofA
  rw [List.take_append_of_le_length hk]
theorem ofA_last {ls : List Ln} {x : Ln} : ofA (ls ++ [x]) (ls.length + 1) = ofA ls ls.length + x.2.2.length := by
  unfold ofA
  rw [List.take_of_length_le (by rw [List.length_append]; exact Nat.le_refl _), List.take_of_length_le (Nat.le_refl _), List.map_append, List.sum_append]
  simp
theorem ofA_mono {ls : List Ln} : ∀ {k : Nat}, k ≤ ls.length → ofA ls k ≤ ofA ls ls.length := by
  intro k hk
  unfold ofA
  rw [List.take_of_length_le (Nat.le_refl ls.length)]
  have e : (ls.map (fun x => x.2.2.length)).sum = ((ls.take k).map (fun x => x.2.2.length)).sum + ((ls.drop k).map (fun x => x.2.2.length)).sum := by
    rw [← List.sum_append, ← List.map_append, List.take_append_drop]
  omega
theorem ofA_succ {ls : List Ln} {k : Nat} (hk : k < ls.length) : ofA ls (k + 1) = ofA ls k + (lnA ls k).2.2.length := by
  unfold ofA lnA
  rw [List.take_succ_eq_append_getElem hk, List.map_append, List.sum_append, List.getD_eq_getElem?_getD, List.getElem?_eq_getElem hk]
  simp
theorem lnA_app {ls : List Ln} {x : Ln} {k : Nat} (hk : k < ls.length) : lnA (ls ++ [x]) k = lnA ls k := by
  unfold lnA
  rw [List.getD_eq_getElem?_getD, List.getD_eq_getElem?_getD, List.getElem?_append_left hk]
theorem lnA_last {ls : List Ln} {x : Ln} : lnA (ls ++ [x]) ls.length = x := by
  unfold lnA
  rw [List.getD_eq_getElem?_getD, List.getElem?_append_right (Nat.le_refl _), Nat.sub_self]
  rfl
section LREAD
variable {T : TK} {m N : Nat} {D : yD}
theorem LA.snoc {V V1 V2 : xF} {ls : List Ln} {x : Ln} (h : LA V ls) (hS : LnS V V1 x) (hV : V2 = up2 (up2 V1 251 ls.length (V1 248 6)) 248 5 ((ls.length : Int) + 1)) : LA V2 (ls ++ [x]) := by
  obtain ⟨l5, l6, lA⟩ := h
  obtain ⟨s1, s2, s3, s4, s5, s6, s7, s8, s9, s10⟩ := hS
  rw [l5, nn_toNat] at s2 s3 s4
  rw [l6] at s5 s6 s7
  rw [nn_toNat] at s7
  have e251 : V1 251 = V 251 := s8.at_ 251 (by decide)
  have r249 : V2 249 = V1 249 := by rw [hV, up2_na (by decide), up2_na (by decide)]
  have r250 : V2 250 = V1 250 := by rw [hV, up2_na (by decide), up2_na (by decide)]
  have r252 : V2 252 = V1 252 := by rw [hV, up2_na (by decide), up2_na (by decide)]
  have r251 : ∀ j, V2 251 j = if j = ls.length then V1 248 6 else V1 251 j := fun j => by rw [hV, up2_na (by decide), up2_a]
  refine ⟨by rw [hV, up2_at, List.length_append]; rfl, ?_, fun k hk => ?_⟩
  · rw [hV, up2_ni (by decide), up2_na (by decide), s5, List.length_append]
    show _ = ((ofA (ls ++ [x]) (ls.length + 1) : Nat) : Int)
    rw [ofA_last]
    omega
  · rw [r249, r250, r252, r251]
    rw [List.length_append] at hk
    have hk : k < ls.length + 1 := hk
    by_cases e : k = ls.length
    · subst e
      rw [lnA_last, if_pos rfl, ofA_last, s5, ofA_app (Nat.le_refl _)]
      exact ⟨s2, s3, by omega, fun q hq => s7 q hq⟩
    · have hk2 : k < ls.length := by omega
      obtain ⟨a1, a2, a3, a4⟩ := lA k hk2
      have h4 := s4 k e
      rw [lnA_app hk2, if_neg e, e251, h4.1, h4.2, ofA_app (by omega), ofA_app (by omega)]
      refine ⟨a1, a2, a3, fun q hq => ?_⟩
      have := ofA_succ hk2
      have := ofA_mono (ls := ls) (k := k + 1) (by omega)
      rw [s6 _ (by omega)]
      exact a4 q hq
noncomputable def pLaw (T : TK) (N : Nat) : Nat × Option (List Ln) := if N = 0 then (0, some []) else pLs T N 12 0
/-- what the class has read -/
def RdC (V V' : xF) : Prop := Fr [76, 78, 79, 80, 248, 249, 250, 251, 252] V V' ∧ (∀ j, j ≠ 5 → j ≠ 6 → V' 76 j = V 76 j) ∧ (∀ j, j ≠ 5 → j ≠ 6 → V' 248 j = V 248 j)
theorem RdC.tr {V V' V2 : xF} (h : RdC V V') (h' : RdC V' V2) : RdC V V2 := ⟨h.1.tr h'.1, fun j a c => (h'.2.1 j a c).trans (h.2.1 j a c), fun j a c => (h'.2.2 j a c).trans (h.2.2 j a c)⟩
theorem c_lread {d : Nat} {V : xF} {Q : xRes → xF → yD → Prop} {b : Nat → Int} (hd : 20 ≤ d) (hm : V 76 1 = (m : Int)) (hm4 : m ≤ 400) (hb : ∀ k, k < 400 → V 77 k = b k) (hV : Ws V)
    (h1 : ∀ V' N T ls, T.1 = b → okT T m N → pLaw T N = (N, some ls) → LA V' ls → RdC V V' → Q (.inl (some (vi 1))) V' D)
    (h0 : ∀ V' N T e, T.1 = b → okT T m N → pLaw T N = (e, none) → CL V' T m N e → RdC V V' → Q (.inl (some (vi 0))) V' D) : RY d 233 0 [vr 248] [] V D Q := by
  refine u_233_0 ?_
  rintro V1 rfl V2 hV2
  have F2 : Fr [248] V V2 := by rw [hV2]; exact (Fr.up (by decide)).tr (Fr.up (by decide))
  refine c_split (m := m) (b := b) (by rw [F2.at_ 76 (by decide)]; exact hm) hm4 (fun k hk => by rw [F2.at_ 77 (by decide)]; exact hb k hk) ?_
  intro V3 N hC h76 F3
  obtain ⟨T, hT⟩ : ∃ T : TK, T = (b, V3 78, V3 79, V3 80) := ⟨_, rfl⟩
  have okTT : okT T m N := by rw [hT]; exact hC.2.2.2.1
  have hTb : T.1 = b := by rw [hT]
  have F03 : Fr [76, 78, 79, 80, 248] V V3 := (F2.sub (by decide)).tr (F3.sub (by decide))
  have hC3 : CL V3 T m N 0 := ⟨hC.1, hC.2.1, hC.2.2.1, okTT, by rw [hT], by rw [hT], by rw [hT], fun k hk => by rw [hTb]; exact hC.2.2.2.2 k hk, fun a g1 g2 j => by rw [F03.at_ a (by simp only [List.mem_cons, List.not_mem_nil, or_false]; omega)]; exact hV a g1 g2 j⟩
  have R3 : RdC V V3 := ⟨F03.sub (by decide), fun j g1 g2 => (h76 j g1).trans (by rw [F2.at_ 76 (by decide)]), fun j g1 g2 => by rw [F3.at_ 248 (by decide), hV2, up2_ni g2, up2_ni g1]⟩
  have hN4 : N ≤ 400 := by have := okTT.1; omega
  have e5 : V3 248 5 = 0 := by rw [F3.at_ 248 (by decide), hV2, up2_ni (by decide), up2_at]
  have e6 : V3 248 6 = 0 := by rw [F3.at_ 248 (by decide), hV2, up2_at]
  have isE : ∀ {V4 : xF} {i : Nat}, CL V4 T m N i → yg_298 V4 D ∧ yr_298 V4 D = if i = N then 1 else 0 := by
    intro V4 i hC4
    obtain ⟨b1, b2, b3, b4, b5, b6, b7, b8, b9⟩ := hC4
    unfold yg_298 yr_298
    rw [b1, nn_toNat, b5]
    refine ⟨by omega, ?_⟩
    by_cases e : i = N
    · rw [if_pos e, e, if_pos b4.2.1]
    · rw [if_neg e, if_neg (fun hc => ?_)]
      have t := (b4.kind (show i < N by omega)).1
      rw [hc] at t
      have : kof (T.1 (T.2.2.1 i).toNat) = 1 ∨ kof (T.1 (T.2.2.1 i).toNat) = 2 ∨ kof (T.1 (T.2.2.1 i).toNat) = 0 := by
        unfold kof
        (repeat' split) <;> simp
      omega
  have loop : ∀ (n i : Nat) (V4 : xF) (ls : List Ln), ls.length + n = 12 → i < N ∨ (i ≤ N ∧ 0 < ls.length) → CL V4 T m N i → LA V4 ls → V4 248 6 ≤ 2 * (i : Int) → RdC V V4 → qOk (pLs T N n i) (fun j r => pLaw T N = (N, some (ls ++ r))) (fun e => pLaw T N = (e, none)) → RY d 233 29 [vr 248] [] V4 D Q := by
    intro n
    induction n with
    | zero =>
      intro i V4 ls hl hi hC4 hA hlen R h
      refine u_233_29 ⟨fun _ => ?_, fun h5 => ?_⟩
      · exact h0 V4 N T i hTb okTT h hC4 R
      · have := hA.1; omega
    | succ n ih =>
      intro i V4 ls hl hi hC4 hA hlen R h
      have hiN : i ≤ N := hC4.2.1
      have a5 := hA.1
      have a6 := hA.2.1
      refine u_233_29 ⟨fun h5 => by omega, fun _ => ?_⟩
      unfold pLs at h
      refine c_line hN4 hd hC4 (by omega) hlen ⟨by omega, by omega⟩ ?_
      obtain ⟨⟨j, o⟩, hr⟩ : ∃ r, r = pLine T i := ⟨_, rfl⟩
      have hbd := pLine_bd okTT hiN
      rw [← hr] at h hbd ⊢
      cases o with
      | none =>
        intro V5 hC5 hF5
        exact u_233_42 ⟨fun h6 => absurd rfl h6, fun _ => h0 V5 N T j hTb okTT h hC5 (R.tr ⟨hF5.2.1.sub (by decide), hF5.2.2.2, hF5.2.2.1⟩)⟩
      | some x =>
        intro V5 hC5 hS5
        have hx : i < j ∧ j ≤ N ∧ x.2.2.length ≤ 2 * (j - i) := ⟨hbd.1, hbd.2.1, hbd.2.2.1⟩
        have h : qOk (qif (j = N) (j, some [x]) (qif (kS T j 59) (match pLs T N n (j + 1) with | (e, none) => (e, none) | (j', some r) => (j', some (x :: r))) (j, none))) (fun j r => pLaw T N = (N, some (ls ++ r))) (fun e => pLaw T N = (e, none)) := h
        have s5 : V5 248 5 = (ls.length : Int) := by rw [hS5.1]; exact a5
        have s6 := hS5.2.2.2.2.1
        refine u_233_42 ⟨fun _ => ⟨by omega, ?_⟩, fun h6 => absurd h6 (by decide)⟩
        rintro V6 rfl V7 hV7
        rw [s5, nn_toNat, up2_na (by decide), s5, wr_id (by omega) (by omega)] at hV7
        have hA7 := hA.snoc hS5 hV7
        have F57 : Fr [251, 248] V5 V7 := by rw [hV7]; exact (Fr.up (by decide)).tr (Fr.up (by decide))
        have hC7 : CL V7 T m N j := hC5.keep (F57.sub (by decide)) (by rw [F57.at_ 76 (by decide)])
        have R7 : RdC V V7 := R.tr ⟨(hS5.2.2.2.2.2.2.2.1.sub (by decide)).tr (F57.sub (by decide)), fun q g1 g2 => by rw [F57.at_ 76 (by decide)]; exact hS5.2.2.2.2.2.2.2.2.2 q g1 g2, fun q g1 g2 => by rw [hV7, up2_ni g1, up2_na (by decide)]; exact hS5.2.2.2.2.2.2.2.2.1 q g2⟩
        have e67 : V7 248 6 = V5 248 6 := by rw [hV7, up2_ni (by decide), up2_na (by decide)]
        have hE := isE hC7
        refine ⟨hE.1, ?_⟩
        rw [hE.2]
        by_cases ej : j = N
        · rw [if_pos ej]
          rw [qif_y ej] at h
          exact ⟨fun h6 => absurd h6 (by decide), fun _ => h1 V7 N T _ hTb okTT h hA7 R7⟩
        · rw [if_neg ej]
          rw [qif_n ej] at h
          refine ⟨fun _ => hC7.pS (fun hlt ht => u_233_91 ⟨fun _ => ?_, fun h6 => absurd h6 (by decide)⟩) (fun ht => u_233_91 ⟨fun h6 => absurd rfl h6, fun _ => ?_⟩), fun h6 => absurd rfl h6⟩
          · rw [qif_y ht] at h
            refine ih (j + 1) _ (ls ++ [x]) (by rw [List.length_append]; show ls.length + 1 + n = 12; omega) (Or.inr ⟨hlt, by rw [List.length_append]; show 0 < ls.length + 1; omega⟩) (hC7.up hlt) ?_ ?_ (R7.tr ⟨Fr.up (by decide), fun q g1 g2 => up2_ni g1, fun q _ _ => by rw [up2_na (by decide)]⟩) ?_
            · unfold LA
              rw [up2_na (by decide), up2_na (by decide), up2_na (by decide), up2_na (by decide), up2_na (by decide)]
              exact hA7
            · rw [up2_na (by decide), e67]
              omega
            · obtain ⟨⟨j', o'⟩, hr'⟩ : ∃ r, r = pLs T N n (j + 1) := ⟨_, rfl⟩
              rw [← hr'] at h ⊢
              cases o' with
              | none => exact h
              | some r =>
                show pLaw T N = (N, some (ls ++ [x] ++ r))
                rw [List.append_assoc]
                exact h
          · rw [qif_n ht] at h
            exact h0 V7 N T j hTb okTT h hC7 R7
  have hE := isE hC3
  have hA3 : LA V3 [] := ⟨e5, e6, fun k hk => absurd hk (Nat.not_lt_zero k)⟩
  refine u_233_17 ⟨hE.1, ?_⟩
  rw [hE.2]
  by_cases eN : 0 = N
  · rw [if_pos eN]
    refine ⟨fun h6 => absurd h6 (by decide), fun _ => h1 V3 N T [] hTb okTT ?_ hA3 R3⟩
    unfold pLaw
    rw [if_pos eN.symm, ← eN]
  · rw [if_neg eN]
    refine ⟨fun _ => loop 12 0 V3 [] rfl (Or.inl (by omega)) hC3 hA3 (by omega) R3 ?_, fun h6 => absurd rfl h6⟩
    unfold pLaw
    rw [if_neg (fun e => eN e.symm)]
    obtain ⟨⟨j, o⟩, hr⟩ : ∃ r, r = pLs T N 12 0 := ⟨_, rfl⟩
    rw [← hr]
    have last : ∀ (n i : Nat) (j : Nat) (r : List Ln), pLs T N n i = (j, some r) → j = N := by
      intro n
      induction n with
      | zero => intro i j r hh; cases hh
      | succ n ih =>
        intro i j r hh
        unfold pLs at hh
        obtain ⟨⟨j1, o1⟩, hr1⟩ : ∃ r, r = pLine T i := ⟨_, rfl⟩
        rw [← hr1] at hh
        cases o1 with
        | none => cases hh
        | some x =>
          have hh : qif (j1 = N) (j1, some [x]) (qif (kS T j1 59) (match pLs T N n (j1 + 1) with | (e, none) => (e, none) | (j', some r) => (j', some (x :: r))) (j1, none)) = (j, some r) := hh
          by_cases ej : j1 = N
          · rw [qif_y ej] at hh
            cases hh
            exact ej
          · rw [qif_n ej] at hh
            by_cases es : kS T j1 59
            · rw [qif_y es] at hh
              obtain ⟨⟨j2, o2⟩, hr2⟩ : ∃ r, r = pLs T N n (j1 + 1) := ⟨_, rfl⟩
              rw [← hr2] at hh
              cases o2 with
              | none => cases hh
              | some r2 =>
                cases hh
                exact ih (j1 + 1) j r2 hr2.symm
            · rw [qif_n es] at hh; cases hh
    cases o with
    | none => rfl
    | some r =>
      have := last 12 0 j r hr.symm
      subst this
      rfl
end LREAD
