/-! ===== THE CLASS READS A CONDITION: NOT, AND, OR ===== -/
section CCOND
variable {D : yD} {T : TK} {m N : Nat}
abbrev pre (V1 : xF) (T : TK) (m N i : Nat) : Prop := CL V1 T m N i ∧ 0 ≤ V1 248 6 ∧ V1 248 6 ≤ 2 * (i : Int)
theorem pre.up {V1 : xF} {i : Nat} (h : pre V1 T m N i) (hi : i + 1 ≤ N) : pre (up2 V1 76 5 (((i + 1 : Nat)) : Int)) T m N (i + 1) := by
  refine ⟨h.1.up hi, ?_, ?_⟩ <;> rw [up2_na (by decide)] <;> have := h.2 <;> omega
theorem qS.at5 {V1 : xF} {Q : xRes → xF → yD → Prop} {z : Int} {j : Nat} {l : List Int} (h0 : 0 ≤ V1 248 6) (h : qS V1 D T m N Q j l) : qS (up2 V1 76 5 z) D T m N Q j l := fun V2 hC hS => h V2 hC (by have := CS.tr h0 (CS.at5 (z := z)) hS; rwa [List.nil_append] at this)
theorem qF.at5 {V1 : xF} {Q : xRes → xF → yD → Prop} {z : Int} {e : Nat} (h0 : 0 ≤ V1 248 6) (h : qF V1 D T m N Q e) : qF (up2 V1 76 5 z) D T m N Q e := fun V2 hC hF => h V2 hC ((CS.cf h0 (CS.at5 (z := z))).tr hF)
theorem c_G (hN4 : N ≤ 400) : ∀ n : Nat,
    (∀ (dp i d : Nat) (V1 : xF) (Q : xRes → xF → yD → Prop), dp ≤ 6 → needG N i 2 n → 2 * (6 - dp) + 1 ≤ d → pre V1 T m N i → rOk (pG T n 0 dp i) (qS V1 D T m N Q) (qF V1 D T m N Q) → RY d 372 0 [vr 248, vi (dp : Int), vr 0, vr 0] [] V1 D Q) ∧
    (∀ (dp i d : Nat) (V1 : xF) (Q : xRes → xF → yD → Prop), dp ≤ 6 → needG N i 4 n → 2 * (6 - dp) + 2 ≤ d → pre V1 T m N i → rOk (pG T n 3 dp i) (qS V1 D T m N Q) (qF V1 D T m N Q) → RY d 363 0 [vr 248, vi (dp : Int), vr 0, vr 0, vr 0] [] V1 D Q) := by
  intro n
  induction n using Nat.strongRecOn with
  | ind n IH =>
    constructor
    · intro dp i d V1 Q hdp hn hd hpre h
      obtain ⟨hC, h0, hlen⟩ := id hpre
      obtain ⟨a1, a2, a3, hT, a5, a6, a7, a8, a9⟩ := id hC
      unfold needG at hn
      obtain ⟨n', rfl⟩ : ∃ n', n = n' + 1 := ⟨n - 1, by omega⟩
      obtain ⟨d', rfl⟩ : ∃ d', d = d' + 1 := ⟨d - 1, by omega⟩
      have ih := IH n' (by omega)
      rw [pG_0] at h
      -- behind the test of depth
      have go : (dp = 6 → ¬ kW T i (wdS 43) ∧ ¬ kS T i 40) → RY (d' + 1) 352 0 [vr 76, vr 26] [] V1 D (yback (d' + 1) 372 41 [vr 248, vi (dp : Int), vr 0, vr 0] [] Q) := by
        intro h6
        refine hC.pW (by omega) (by omega) (fun hlt ht => u_372_41 ⟨fun h5 => absurd h5 (by decide), fun _ => ?_⟩) (fun ht => u_372_41 ⟨fun _ => ?_, fun h5 => absurd rfl h5⟩)
        · rw [wd_eq.2.2.1] at ht
          have hd6 : ¬ dp = 6 := fun e => (h6 e).1 ht
          rw [pif_y ht, pif_n hd6, rOk_bN] at h
          rw [wr_id (by omega) (by omega), show (dp : Int) + 1 = (((dp + 1 : Nat)) : Int) by omega]
          refine ih.1 (dp + 1) (i + 1) d' _ _ (by omega) (by unfold needG; omega) (by omega) (hpre.up hlt) ?_
          refine rOk_mono (fun j l hr hh => ?_) (fun e he hh => ?_) h
          · have hbd := pG_bd hT n' 0 (dp + 1) (i + 1) (by omega)
            rw [hr] at hbd
            have hbd : bdP N 0 (i + 1) j l := hbd
            have hl := (hbd.2.2.2 (by omega)).2
            have hj := hbd.2.1
            have hh : qS V1 D T m N Q j (l ++ [-6]) := hh
            intro V2 hC2 hS2
            have hS2' : CS V1 V2 l := by have := CS.tr h0 (CS.at5 (z := (((i + 1 : Nat)) : Int))) hS2; rwa [List.nil_append] at this
            have e6 := hS2'.1
            refine u_372_51 (em (P := fun W => (((1 : Int) = 0 ∨ (1 : Int) = 1) ∧ Q (.inl (some (vi 1))) W D)) (by omega) (by omega) (fun hE => ⟨Or.inr rfl, ?_⟩))
            exact hh _ hC2.emit (CS.tr h0 hS2' hE)
          · intro V2 hC2 hF2
            have hF2' : CF V1 V2 := (CS.cf h0 (CS.at5 (z := (((i + 1 : Nat)) : Int)))).tr hF2
            refine u_372_51 (emF (P := fun W => (((0 : Int) = 0 ∨ (0 : Int) = 1) ∧ Q (.inl (some (vi 0))) W D)) hF2'.1 (fun V3 hF3 e5 => ⟨Or.inl rfl, ?_⟩))
            exact hh V3 (CF.cl hC2 hF3 e5) (hF2'.tr hF3)
        · rw [wd_eq.2.2.1] at ht
          rw [pif_n ht] at h
          refine hC.pS (fun hlt ht2 => u_372_69 ⟨fun h5 => absurd h5 (by decide), fun _ => ?_⟩) (fun ht2 => u_372_69 ⟨fun _ => ?_, fun h5 => absurd rfl h5⟩)
          · have hd6 : ¬ dp = 6 := fun e => (h6 e).2 ht2
            rw [pif_y ht2, pif_n hd6, rOk_bN] at h
            rw [wr_id (by omega) (by omega), show (dp : Int) + 1 = (((dp + 1 : Nat)) : Int) by omega]
            refine ih.2 (dp + 1) (i + 1) d' _ _ (by omega) (by unfold needG; omega) (by omega) (hpre.up hlt) ?_
            refine rOk_mono (fun j l hr hh => ?_) (fun e he hh => ?_) h
            · intro V2 hC2 hS2
              have hS2' : CS V1 V2 l := by have := CS.tr h0 (CS.at5 (z := (((i + 1 : Nat)) : Int))) hS2; rwa [List.nil_append] at this
              refine u_372_79 ⟨fun h5 => absurd h5 (by decide), fun _ => hC2.pS (fun hlt2 ht3 => u_372_91 ⟨fun h5 => absurd h5 (by decide), fun _ => ?_⟩) (fun ht3 => u_372_91 ⟨fun _ => ?_, fun h5 => absurd rfl h5⟩)⟩
              · rw [pif_y ht3] at hh
                have hh : qS V1 D T m N Q (j + 1) l := hh
                have hS3 := CS.tr h0 hS2' (CS.at5 (z := (((j + 1 : Nat)) : Int)))
                rw [List.append_nil] at hS3
                exact hh _ (hC2.up hlt2) hS3
              · rw [pif_n ht3] at hh
                have hh : qF V1 D T m N Q j := hh
                exact hh V2 hC2 (hS2'.cf h0)
            · intro V2 hC2 hF2
              exact u_372_79 ⟨fun _ => hh V2 hC2 ((CS.cf h0 (CS.at5 (z := (((i + 1 : Nat)) : Int)))).tr hF2), fun h5 => absurd rfl h5⟩
          · rw [pif_n ht2] at h
            refine hC.pW (by omega) (by omega) (fun hlt ht3 => u_372_109 ⟨fun h5 => absurd h5 (by decide), fun _ => ?_⟩) (fun ht3 => u_372_109 ⟨fun _ => ?_, fun h5 => absurd rfl h5⟩)
            · rw [wd_eq.2.2.2.1] at ht3
              rw [pif_y ht3] at h
              have h : qS V1 D T m N Q (i + 1) [-4] := h
              have e6 : (up2 V1 76 5 (((i + 1 : Nat)) : Int)) 248 6 = V1 248 6 := by rw [up2_na (by decide)]
              refine em (P := fun W => Q (.inl (some (vi 1))) W D) (by omega) (by omega) (fun hE => ?_)
              have hS := CS.tr h0 (CS.at5 (z := (((i + 1 : Nat)) : Int))) hE
              exact h _ (hC.up hlt).emit hS
            rw [wd_eq.2.2.2.1] at ht3
            rw [pif_n ht3] at h
            refine hC.pW (by omega) (by omega) (fun hlt ht4 => u_372_129 ⟨fun h5 => absurd h5 (by decide), fun _ => ?_⟩) (fun ht4 => u_372_129 ⟨fun _ => ?_, fun h5 => absurd rfl h5⟩)
            · rw [wd_eq.2.2.2.2.1] at ht4
              rw [pif_y ht4] at h
              have h : qS V1 D T m N Q (i + 1) [-5] := h
              have e6 : (up2 V1 76 5 (((i + 1 : Nat)) : Int)) 248 6 = V1 248 6 := by rw [up2_na (by decide)]
              refine em (P := fun W => Q (.inl (some (vi 1))) W D) (by omega) (by omega) (fun hE => ?_)
              have hS := CS.tr h0 (CS.at5 (z := (((i + 1 : Nat)) : Int))) hE
              exact h _ (hC.up hlt).emit hS
            rw [wd_eq.2.2.2.2.1] at ht4
            rw [pif_n ht4, rOk_bN] at h
            refine u_377_0 (c_sum (V0 := V1) h0 hN4 n' i 0 (d' + 1) V1 [] _ _ (by omega) (by omega) hC CS.rf h0 hlen ?_)
            rw [rOk_bN]
            refine rOk_mono (fun j l hr hh => ?_) (fun e he hh => ?_) h
            · have hbd := pSum_bd hT n' i a2
              rw [hr] at hbd
              have hij : i < j := hbd.1
              have hj : j ≤ N := hbd.2.1
              have hl : l.length + 1 ≤ 2 * (j - i) := hbd.2.2.1
              show qS V1 D T m N (yback (d' + 1) 372 144 [vr 248, vi (dp : Int), vr 0, vr 0] [] Q) j l
              intro V2 hC2 hS2
              obtain ⟨b1, b2, b3, b4, b5, b6, b7, b8, b9⟩ := id hC2
              have e6 := hS2.1
              have s60 := hC2.sg (D := D) (c := 60)
              have s62 := hC2.sg (D := D) (c := 62)
              -- the other side
              have other : ∀ (z i2 : Int), kS T j (if i2 = 0 then 62 else 60) → z = (if i2 = 0 then -3 else -2) → rOk (bN (pSum T n' (j + 1)) (fun j' l' => (j', some (l ++ (-1 :: l') ++ [z])))) (qS V1 D T m N Q) (qF V1 D T m N Q) → (((0 : Int) ≤ V2 76 5 ∧ V2 76 5 < (401 : Int)) ∧ (((V2 78 ((V2 76 5).toNat)) = 3 → (((800 : Int) ≤ (V2 248 6) → RY (d' + 1) 377 0 [vr 248, vr 0, vr 0, vr 0] [] V2 D (yback (d' + 1) 372 193 [vr 248, vi (dp : Int), vi i2, vr 0] [] Q)) ∧ ((V2 248 6) < 800 → (((0 : Int) ≤ V2 248 6 ∧ V2 248 6 < (800 : Int)) ∧ (∀ V1 : xF, V1 = up2 V2 252 ((V2 248 6).toNat) ((-1)) → ∀ V3 : xF, V3 = up2 V1 248 6 (wr ((V1 248 6) + 1)) → RY (d' + 1) 377 0 [vr 248, vr 0, vr 0, vr 0] [] V3 D (yback (d' + 1) 372 193 [vr 248, vi (dp : Int), vi i2, vr 0] [] Q)))))) ∧ ((V2 78 ((V2 76 5).toNat)) ≠ 3 → ∀ V3 : xF, V3 = up2 V2 76 5 (wr ((V2 76 5) + 1)) → (((800 : Int) ≤ (V3 248 6) → RY (d' + 1) 377 0 [vr 248, vr 0, vr 0, vr 0] [] V3 D (yback (d' + 1) 372 193 [vr 248, vi (dp : Int), vi i2, vr 0] [] Q)) ∧ ((V3 248 6) < 800 → (((0 : Int) ≤ V3 248 6 ∧ V3 248 6 < (800 : Int)) ∧ (∀ V4 : xF, V4 = up2 V3 252 ((V3 248 6).toNat) ((-1)) → ∀ V5 : xF, V5 = up2 V4 248 6 (wr ((V4 248 6) + 1)) → RY (d' + 1) 377 0 [vr 248, vr 0, vr 0, vr 0] [] V5 D (yback (d' + 1) 372 193 [vr 248, vi (dp : Int), vi i2, vr 0] [] Q)))))))) := by
                intro z i2 hs hz h9
                have hlt := kS_lt hT hj hs
                rw [b1, nn_toNat, b5]
                refine ⟨by omega, fun h5 => ?_, fun _ => ?_⟩
                · have := hs.1; rw [h5] at this; omega
                · rintro V3 rfl
                  rw [wr_id (by omega) (by omega), show (j : Int) + 1 = (((j + 1 : Nat)) : Int) by omega]
                  have hS3 := CS.tr h0 hS2 (CS.at5 (z := (((j + 1 : Nat)) : Int)))
                  rw [List.append_nil] at hS3
                  have hC3 := hC2.up hlt
                  generalize up2 V2 76 5 (((j + 1 : Nat)) : Int) = V3 at hS3 hC3 ⊢
                  have e63 := hS3.1
                  refine em (P := fun W => RY (d' + 1) 377 0 [vr 248, vr 0, vr 0, vr 0] [] W D (yback (d' + 1) 372 193 [vr 248, vi (dp : Int), vi i2, vr 0] [] Q)) (by omega) (by omega) (fun hE => ?_)
                  have hC4 : CL _ T m N (j + 1) := hC3.emit (k := (V3 248 6).toNat) (z := -1) (w := wr ((up2 V3 252 (V3 248 6).toNat (-1)) 248 6 + 1))
                  generalize up2 (up2 V3 252 (V3 248 6).toNat (-1)) 248 6 (wr ((up2 V3 252 (V3 248 6).toNat (-1)) 248 6 + 1)) = V4 at hE hC4 ⊢
                  have hS4 := CS.tr h0 hS3 hE
                  have e64 := hE.1
                  have el : ([-1] : List Int).length = 1 := rfl
                  rw [el] at e64
                  rw [rOk_bN] at h9
                  refine u_377_0 (c_sum (V0 := V4) (by omega) hN4 n' (j + 1) 0 (d' + 1) V4 [] _ _ (by omega) (by omega) hC4 CS.rf (by omega) (by omega) ?_)
                  rw [rOk_bN]
                  refine rOk_mono (fun j' l' hr' hh' => ?_) (fun e' he' hh' => ?_) h9
                  · have hbd2 := pSum_bd hT n' (j + 1) (by omega)
                    rw [hr'] at hbd2
                    have hj1 : j + 1 < j' := hbd2.1
                    have hj' : j' ≤ N := hbd2.2.1
                    have hl' : l'.length + 1 ≤ 2 * (j' - (j + 1)) := hbd2.2.2.1
                    have hh' : qS V1 D T m N Q j' (l ++ (-1 :: l') ++ [z]) := hh'
                    show qS V4 D T m N (yback (d' + 1) 372 193 [vr 248, vi (dp : Int), vi i2, vr 0] [] Q) j' l'
                    intro V5 hC5 hS5
                    have e65 := hS5.1
                    have hS15 := CS.tr h0 hS4 hS5
                    have last : ∀ z', z = z' → ((800 : Int) ≤ V5 248 6 → (((1 : Int) = 0 ∨ (1 : Int) = 1) ∧ Q (.inl (some (vi 1))) V5 D)) ∧ (V5 248 6 < 800 → (((0 : Int) ≤ V5 248 6 ∧ V5 248 6 < (800 : Int)) ∧ (∀ V6 : xF, V6 = up2 V5 252 ((V5 248 6).toNat) z' → ∀ V7 : xF, V7 = up2 V6 248 6 (wr ((V6 248 6) + 1)) → (((1 : Int) = 0 ∨ (1 : Int) = 1) ∧ Q (.inl (some (vi 1))) V7 D)))) := by
                      intro z' hzz
                      subst hzz
                      refine em (P := fun W => (((1 : Int) = 0 ∨ (1 : Int) = 1) ∧ Q (.inl (some (vi 1))) W D)) (by omega) (by omega) (fun hE5 => ⟨Or.inr rfl, ?_⟩)
                      have hS16 := CS.tr h0 hS15 hE5
                      have ea : l ++ [-1] ++ l' ++ [z] = l ++ (-1 :: l') ++ [z] := by simp
                      rw [ea] at hS16
                      exact hh' _ hC5.emit hS16
                    refine u_372_193 ⟨fun h5 => last (-3) (by rw [hz, if_pos h5]), fun h5 => last (-2) (by rw [hz, if_neg h5])⟩
                  · have hh' : qF V1 D T m N Q e' := hh'
                    show qF V4 D T m N (yback (d' + 1) 372 193 [vr 248, vi (dp : Int), vi i2, vr 0] [] Q) e'
                    intro V5 hC5 hF5
                    have hF15 := (hS4.cf h0).tr hF5
                    refine u_372_193 ⟨fun h5 => emF (P := fun W => (((0 : Int) = 0 ∨ (0 : Int) = 1) ∧ Q (.inl (some (vi 0))) W D)) hF15.1 (fun V6 hF6 e5 => ⟨Or.inl rfl, ?_⟩), fun h5 => emF (P := fun W => (((0 : Int) = 0 ∨ (0 : Int) = 1) ∧ Q (.inl (some (vi 0))) W D)) hF15.1 (fun V6 hF6 e5 => ⟨Or.inl rfl, ?_⟩)⟩
                    · exact hh' V6 (CF.cl hC5 hF6 e5) (hF15.tr hF6)
                    · exact hh' V6 (CF.cl hC5 hF6 e5) (hF15.tr hF6)
              refine u_372_144 ⟨fun _ => ⟨s60.1, fun h5 => ?_, fun h5 => ⟨s62.1, fun h6 => ?_, fun h6 => ?_⟩⟩, fun h5 => absurd h5 (by decide)⟩
              · have hk : kS T j 60 := by apply Classical.byContradiction; intro hc; exact h5 (s60.2.2 hc)
                rw [pif_y hk] at hh
                rw [s60.2.1 hk]
                exact other (-2) 1 (by rw [if_neg (by decide)]; exact hk) (by rw [if_neg (by decide)]) hh
              · have hk : ¬ kS T j 60 := fun hc => by rw [s60.2.1 hc] at h5; exact absurd h5 (by decide)
                have hk2 : kS T j 62 := by apply Classical.byContradiction; intro hc; exact h6 (s62.2.2 hc)
                rw [pif_n hk, pif_y hk2] at hh
                rw [s60.2.2 hk]
                exact other (-3) 0 (by rw [if_pos rfl]; exact hk2) (by rw [if_pos rfl]) hh
              · have hk : ¬ kS T j 60 := fun hc => by rw [s60.2.1 hc] at h5; exact absurd h5 (by decide)
                have hk2 : ¬ kS T j 62 := fun hc => by rw [s62.2.1 hc] at h6; exact absurd h6 (by decide)
                rw [pif_n hk, pif_n hk2] at hh
                have hh : qF V1 D T m N Q j := hh
                exact hh V2 hC2 (hS2.cf h0)
            · show qF V1 D T m N (yback (d' + 1) 372 144 [vr 248, vi (dp : Int), vr 0, vr 0] [] Q) e
              intro V2 hC2 hF2
              exact u_372_144 ⟨fun h5 => absurd rfl h5, fun _ => hh V2 hC2 hF2⟩
      have sg := hC.sg (D := D) (c := 40)
      refine u_372_0 ⟨fun h5 => go (fun e => by omega), fun h5 => hC.iW (by omega) (by omega) (fun ht => u_372_15 ⟨fun _ => ?_, fun h6 => absurd h6 (by decide)⟩) (fun ht => u_372_15 ⟨fun h6 => absurd rfl h6, fun _ => ⟨sg.1, fun h6 => ?_, fun h6 => ?_⟩⟩)⟩
      · rw [wd_eq.2.2.1] at ht
        rw [pif_y ht, pif_y (by omega)] at h
        have h : qF V1 D T m N Q i := h
        exact h V1 hC (CS.rf.cf h0)
      · rw [wd_eq.2.2.1] at ht
        exact go (fun _ => ⟨ht, fun hc => by rw [sg.2.1 hc] at h6; exact absurd h6 (by decide)⟩)
      · rw [wd_eq.2.2.1] at ht
        have hk : kS T i 40 := by apply Classical.byContradiction; intro hc; exact h6 (sg.2.2 hc)
        rw [pif_n ht, pif_y hk, pif_y (by omega)] at h
        have h : qF V1 D T m N Q i := h
        exact h V1 hC (CS.rf.cf h0)
    · intro dp i d V0 Q hdp hn hd hpre h
      unfold needG at hn
      obtain ⟨n', rfl⟩ : ∃ n', n = n' + 1 := ⟨n - 1, by omega⟩
      obtain ⟨d', rfl⟩ : ∃ d', d = d' + 1 := ⟨d - 1, by omega⟩
      have hT : okT T m N := hpre.1.2.2.2.1
      have h00 := hpre.2.1
      have h : rOk (bN (pG T n' 1 dp i) (fun j l => bN (pG T n' 4 dp j) (fun j' l' => (j', some (l ++ l'))))) (qS V0 D T m N Q) (qF V0 D T m N Q) := h
      -- parts of and, behind an atom; o is what is put down at the end
      have tails : ∀ (i2 : Int) (o : List Int) (k : Nat), (i2 = 0 → o = []) → (i2 ≠ 0 → o = [-8]) → ∀ (c j q : Nat) (V1 : xF) (l0 : List Int), c ≤ n' → needG N j 1 c → 2 * q ≤ j → CL V1 T m N j → CS V0 V1 l0 → 0 ≤ V1 248 6 → V1 248 6 + 1 ≤ 2 * (j : Int) → rOk (pG T c 2 dp j) (fun j' l' => ∀ V2, CL V2 T m N j' → CS V0 V2 (l0 ++ l' ++ o) → RY (d' + 1) 352 0 [vr 76, vr 38] [] V2 D (yback (d' + 1) 363 85 [vr 248, vi (dp : Int), vi i2, vi (k : Int), vi (q : Int)] [] Q) ∧ ∀ q' : Int, RY (d' + 1) 352 0 [vr 76, vr 38] [] V2 D (yback (d' + 1) 363 85 [vr 248, vi (dp : Int), vi i2, vi (k : Int), vi q'] [] Q)) (qF V0 D T m N Q) → RY (d' + 1) 363 24 [vr 248, vi (dp : Int), vi i2, vi (k : Int), vi (q : Int)] [] V1 D Q := by
        intro i2 o k ho1 ho2 c
        induction c with
        | zero => intro j q V1 l0 hc hnn; unfold needG at hnn; omega
        | succ c ihc =>
          intro j q V1 l0 hc hnn hq hC hS h0 hlen h9
          unfold needG at hnn
          have hj : j ≤ N := hC.2.1
          rw [pG_2] at h9
          refine u_363_24 ⟨fun h5 => by omega, fun _ => hC.pW (by omega) (by omega) (fun hlt ht => u_363_41 ⟨fun h5 => absurd h5 (by decide), fun _ => ?_⟩) (fun ht => u_363_41 ⟨fun _ => ?_, fun h5 => absurd rfl h5⟩)⟩
          · rw [wd_eq.1] at ht
            rw [pif_y ht, rOk_bN] at h9
            have hp2 : pre (up2 V1 76 5 (((j + 1 : Nat)) : Int)) T m N (j + 1) := by
              refine ⟨hC.up hlt, ?_, ?_⟩ <;> rw [up2_na (by decide)] <;> omega
            refine (IH c (by omega)).1 dp (j + 1) d' _ _ hdp (by unfold needG; omega) (by omega) hp2 ?_
            refine rOk_mono (fun j1 l1 hr hh => ?_) (fun e he hh => ?_) h9
            · have hbd := pG_bd hT c 0 dp (j + 1) (by omega)
              rw [hr] at hbd
              have hbd : bdP N 0 (j + 1) j1 l1 := hbd
              have hl1 := hbd.2.2.2 (by omega)
              have hj1 := hbd.2.1
              intro V2 hC2 hS2
              have hS12 : CS V1 V2 l1 := by have := CS.tr h0 (CS.at5 (z := (((j + 1 : Nat)) : Int))) hS2; rwa [List.nil_append] at this
              have hS02 := CS.tr h00 hS hS12
              have e62 := hS12.1
              refine u_363_49 ⟨fun _ => em (P := fun W => RY (d' + 1) 363 24 [vr 248, vi (dp : Int), vi i2, vi (k : Int), vi (wr ((q : Int) + 1))] [] W D Q) (by omega) (by omega) (fun hE => ?_), fun h5 => absurd h5 (by decide)⟩
              rw [wr_id (by omega) (by omega), show (q : Int) + 1 = (((q + 1 : Nat)) : Int) by omega]
              have hC3 : CL _ T m N j1 := hC2.emit (k := (V2 248 6).toNat) (z := -7) (w := wr ((up2 V2 252 (V2 248 6).toNat (-7)) 248 6 + 1))
              generalize up2 (up2 V2 252 (V2 248 6).toNat (-7)) 248 6 (wr ((up2 V2 252 (V2 248 6).toNat (-7)) 248 6 + 1)) = V3 at hE hC3 ⊢
              have hS03 := CS.tr h00 hS02 hE
              have e63 := hE.1
              have el : ([-7] : List Int).length = 1 := rfl
              rw [el] at e63
              refine ihc j1 (q + 1) V3 (l0 ++ (l1 ++ [-7])) (by omega) (by unfold needG; omega) (by omega) hC3 (by rw [← List.append_assoc]; exact hS03) (by omega) (by omega) ?_
              rw [rOk_bN] at hh
              refine rOk_mono (fun j' l' _ h8 => ?_) (fun e _ h8 => h8) hh
              intro V4 hC4 hS4
              have h8 := h8 V4 hC4 (by
                have ea : l0 ++ (l1 ++ [-7] ++ l') ++ o = l0 ++ (l1 ++ [-7]) ++ l' ++ o := by simp
                rw [ea]; exact hS4)
              exact ⟨h8.2 _, h8.2⟩
            · intro V2 hC2 hF2
              refine u_363_49 ⟨fun h5 => absurd rfl h5, fun _ => hh V2 hC2 ?_⟩
              exact (hS.cf h00).tr ((CS.cf h0 (CS.at5 (z := (((j + 1 : Nat)) : Int)))).tr hF2)
          · rw [wd_eq.1] at ht
            rw [pif_n ht] at h9
            have h9 : ∀ V2, CL V2 T m N j → CS V0 V2 (l0 ++ [] ++ o) → RY (d' + 1) 352 0 [vr 76, vr 38] [] V2 D (yback (d' + 1) 363 85 [vr 248, vi (dp : Int), vi i2, vi (k : Int), vi (q : Int)] [] Q) ∧ ∀ q' : Int, RY (d' + 1) 352 0 [vr 76, vr 38] [] V2 D (yback (d' + 1) 363 85 [vr 248, vi (dp : Int), vi i2, vi (k : Int), vi q'] [] Q) := h9
            refine ⟨fun h5 => ?_, fun h5 => em (P := fun W => RY (d' + 1) 352 0 [vr 76, vr 38] [] W D (yback (d' + 1) 363 85 [vr 248, vi (dp : Int), vi i2, vi (k : Int), vi (q : Int)] [] Q)) (by omega) (by omega) (fun hE => ?_)⟩
            · exact (h9 V1 hC (by rw [ho1 h5, List.append_nil, List.append_nil]; exact hS)).1
            · refine (h9 _ hC.emit ?_).1
              rw [ho2 h5, List.append_nil]
              exact CS.tr h00 hS hE
      have ors : ∀ (c : Nat) (i2 : Int) (o : List Int) (j k : Nat) (V1 : xF) (l0 : List Int) (v4 : xV), c ≤ n' → (i2 = 0 → o = []) → (i2 ≠ 0 → o = [-8]) → needG N j 3 c → 2 * k ≤ j → CL V1 T m N j → CS V0 V1 l0 → 0 ≤ V1 248 6 → V1 248 6 ≤ 2 * (j : Int) → (i2 = 0 ∨ i2 = 1) → (i2 = 1 → V1 248 6 + 1 ≤ 2 * (j : Int)) → rOk (bN (pG T c 1 dp j) (fun j1 l => bN (pG T c 4 dp j1) (fun j' l' => (j', some (l0 ++ (l ++ o ++ l')))))) (qS V0 D T m N Q) (qF V0 D T m N Q) → RY (d' + 1) 363 4 [vr 248, vi (dp : Int), vi i2, vi (k : Int), v4] [] V1 D Q := by
        intro c
        induction c with
        | zero => intro i2 o j k V1 l0 v4 hc _ _ hnn; unfold needG at hnn; omega
        | succ c ihc =>
          intro i2 o j k V1 l0 v4 hc ho1 ho2 hnn hk hC hS h0 hlen hi2 hlen2 h9
          unfold needG at hnn
          have hj : j ≤ N := hC.2.1
          rw [show pG T (c + 1) 1 dp j = bN (pG T c 0 dp j) (fun j l => bN (pG T c 2 dp j) (fun j' l' => (j', some (l ++ l')))) from rfl] at h9
          rw [rOk_bN, rOk_bN] at h9
          refine u_363_4 ⟨fun h5 => by omega, fun _ => (IH c (by omega)).1 dp j d' _ _ hdp (by unfold needG; omega) (by omega) ⟨hC, h0, hlen⟩ ?_⟩
          refine rOk_mono (fun j1 l1 hr hh => ?_) (fun e he hh => ?_) h9
          · have hbd := pG_bd hT c 0 dp j hj
            rw [hr] at hbd
            have hbd : bdP N 0 j j1 l1 := hbd
            have hl1 := hbd.2.2.2 (by omega)
            intro V2 hC2 hS2
            have e62 := hS2.1
            have hS02 := CS.tr h00 hS hS2
            refine u_363_16 ⟨fun _ => ?_, fun h5 => absurd h5 (by decide)⟩
            refine tails i2 o k ho1 ho2 c j1 0 V2 (l0 ++ l1) (by omega) (by unfold needG; omega) (by omega) hC2 hS02 (by omega) (by omega) ?_
            rw [rOk_bN] at hh
            refine rOk_mono (fun j2 l2 hr2 hh2 => ?_) (fun e _ hh2 => hh2) hh
            have hbd2 := pG_bd hT c 2 dp j1 hbd.2.1
            rw [hr2] at hbd2
            have hbd2 : bdP N 2 j1 j2 l2 := hbd2
            have hl2 := hbd2.2.2.1 (by omega)
            have hij2 := hbd2.1
            have hh2 : rOk (bN (pG T (c + 1) 4 dp j2) (fun j' l' => (j', some (l0 ++ ((l1 ++ l2) ++ o ++ l'))))) (qS V0 D T m N Q) (qF V0 D T m N Q) := hh2
            rw [pG_4] at hh2
            intro V3 hC3 hS3
            have e63 := hS3.1
            have e60 := hS02.1
            rw [List.length_append] at e63
            have ol : o.length ≤ 1 := by
              rcases hi2 with e | e
              · rw [ho1 e]; show 0 ≤ 1; omega
              · rw [ho2 (by omega)]; exact Nat.le_refl 1
            have oz : i2 = 0 → o.length = 0 := fun e => by rw [ho1 e]; rfl
            rw [List.length_append] at e60 e63
            have lenB : V3 248 6 + 1 ≤ 2 * (j2 : Int) := by
              have := hS.1
              rw [List.length_append] at e63
              rcases hi2 with e | e
              · have := oz e; omega
              · have := hlen2 e; omega
            have lenN : 0 ≤ V3 248 6 := by
              have := hS.1
              omega
            have key : ∀ q' : Int, RY (d' + 1) 352 0 [vr 76, vr 38] [] V3 D (yback (d' + 1) 363 85 [vr 248, vi (dp : Int), vi i2, vi (k : Int), vi q'] [] Q) := by
              intro q'
              refine hC3.pW (by omega) (by omega) (fun hlt ht => u_363_85 ⟨fun _ => ?_, fun h5 => absurd h5 (by decide)⟩) (fun ht => u_363_85 ⟨fun h5 => absurd rfl h5, fun _ => ?_⟩)
              · rw [wd_eq.2.1] at ht
                rw [pif_y ht, rOk_bN] at hh2
                rw [wr_id (by omega) (by omega), show (k : Int) + 1 = (((k + 1 : Nat)) : Int) by omega]
                have hS4 := CS.tr h00 hS3 (CS.at5 (z := (((j2 + 1 : Nat)) : Int)))
                rw [List.append_nil] at hS4
                refine ihc 1 [-8] (j2 + 1) (k + 1) _ _ _ (by omega) (fun e => absurd e (by decide)) (fun _ => rfl) (by unfold needG; omega) (by omega) (hC3.up hlt) hS4 ?_ ?_ (Or.inr rfl) ?_ ?_
                · rw [up2_na (by decide)]; exact lenN
                · rw [up2_na (by decide)]; omega
                · intro _; rw [up2_na (by decide)]; omega
                · rw [rOk_bN] at hh2 ⊢
                  refine rOk_mono (fun j5 l5 _ h5 => ?_) (fun e _ h5 => h5) hh2
                  rw [rOk_bN] at h5 ⊢
                  refine rOk_mono (fun j6 l6 _ h6 => ?_) (fun e _ h6 => h6) h5
                  have h6 : qS V0 D T m N Q j6 (l0 ++ ((l1 ++ l2) ++ o ++ (l5 ++ [-8] ++ l6))) := h6
                  show qS V0 D T m N Q j6 (l0 ++ l1 ++ l2 ++ o ++ (l5 ++ [-8] ++ l6))
                  have ea : l0 ++ l1 ++ l2 ++ o ++ (l5 ++ [-8] ++ l6) = l0 ++ ((l1 ++ l2) ++ o ++ (l5 ++ [-8] ++ l6)) := by simp
                  rw [ea]; exact h6
              · rw [wd_eq.2.1] at ht
                rw [pif_n ht] at hh2
                have hh2 : qS V0 D T m N Q j2 (l0 ++ ((l1 ++ l2) ++ o ++ [])) := hh2
                refine hh2 V3 hC3 ?_
                have ea : l0 ++ ((l1 ++ l2) ++ o ++ []) = l0 ++ l1 ++ l2 ++ o := by simp
                rw [ea]; exact hS3
            exact ⟨key _, key⟩
          · intro V2 hC2 hF2
            exact u_363_16 ⟨fun h5 => absurd rfl h5, fun _ => hh V2 hC2 ((hS.cf h00).tr hF2)⟩
      refine u_363_0 (ors n' 0 [] i 0 V0 [] _ (Nat.le_refl _) (fun _ => rfl) (fun e => absurd rfl e) (by unfold needG; omega) (by omega) hpre.1 CS.rf hpre.2.1 hpre.2.2 (Or.inl rfl) (fun e => absurd e (by decide)) ?_)
      rw [rOk_bN] at h ⊢
      refine rOk_mono (fun j l _ hh => ?_) (fun e _ hh => hh) h
      rw [rOk_bN] at hh ⊢
      refine rOk_mono (fun j' l' _ hh => ?_) (fun e _ hh => hh) hh
      have hh : qS V0 D T m N Q j' (l ++ l') := hh
      show qS V0 D T m N Q j' ([] ++ (l ++ [] ++ l'))
      have ea : ([] : List Int) ++ (l ++ [] ++ l') = l ++ l' := by simp
      rw [ea]; exact hh
end CCOND
