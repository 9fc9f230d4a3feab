/-! ===== THE WALL THAT ONE MISSES LEAST; WALLS TO HANG ===== -/
section HANGS
variable {d : Nat} {V : xF} {D : yD} {Q : xRes → xF → yD → Prop} {p : Rw}
theorem WF.of {q : Rw} (hW : WF p) (h1 : ∀ k, k < 16 → q k = p k) (h2 : ∀ r, r < 5 → rW q r = rW p r ∧ rD q r = rD p r ∧ rR q r = rR p r) (h3 : ∀ r w : Nat, (r : Int) < p 3 → w < 4 → 0 ≤ rS q r w ∧ rS q r w ≤ 4) (h4 : ∀ k, 51 ≤ k → k < 91 → q k = p k) : WF q := by
  have e3 := h1 3 (by omega)
  have r3 : p 3 ≤ 5 := hW.1.2
  have r4 : p 4 ≤ 5 := hW.2.1.2
  obtain ⟨g1, g2, g3, g4, g5, g6, g7, g8, g9, g10, g11, g12, g13, g14, g15, g16⟩ := hW
  unfold WF
  rw [e3, h1 4 (by omega), h1 0 (by omega), h1 1 (by omega), h1 5 (by omega), h1 6 (by omega), h1 7 (by omega), h1 8 (by omega), h1 9 (by omega), h1 10 (by omega), h1 11 (by omega), h1 12 (by omega), h1 13 (by omega), h1 14 (by omega)]
  unfold tP_ tW_ tL_ dO_ at *
  refine ⟨g1, g2, g3, g4, g5, g6, g7, g8, g9, g10, g11, fun r hr => ?_, fun t ht => ?_, fun t u ht hu => ?_, fun r o hr ho => ?_, ?_⟩
  · have := h2 r (by omega)
    rw [this.1, this.2.1, this.2.2]
    obtain ⟨a, b, c, e⟩ := g12 r hr
    exact ⟨a, b, fun w hw => h3 r w hr hw, e⟩
  · rw [h4 _ (by omega) (by omega), h4 _ (by omega) (by omega), h4 _ (by omega) (by omega)]
    exact g13 t ht
  · rw [h4 _ (by omega) (by omega), h4 _ (by omega) (by omega)]
    exact g14 t u ht hu
  · rw [h4 _ (by omega) (by omega), h4 _ (by omega) (by omega)]
    exact g15 r o hr ho
  · rcases g16 with h | ⟨a, b, c, e, f, g⟩
    · exact Or.inl h
    · have := h2 (p 5).toNat (by omega)
      rw [this.1, this.2.1]
      exact Or.inr ⟨a, b, c, e, f, g⟩
theorem WF.sor (hW : WF p) {r w : Nat} (hr : (r : Int) < p 3) (hw : w < 4) : 0 ≤ rS p r w ∧ rS p r w ≤ 4 := by
  obtain ⟨-, -, -, -, -, -, -, -, -, -, -, h2, -⟩ := hW
  exact (h2 r hr).2.2.1 w hw
theorem WF.sort (hW : WF p) {r w : Nat} {z : Int} (hr : r < 5) (hw : w < 4) (hz : 0 ≤ z ∧ z ≤ 4) : WF (rup p (18 + 7 * r + w) z) := by
  refine hW.of (fun k hk => rup_n (by omega)) (fun r' h => ⟨rup_n (by omega), rup_n (by omega), rup_n (by omega)⟩) (fun r' w' h h' => ?_) (fun k h h' => rup_n (by omega))
  unfold rS rup
  split
  · exact hz
  · exact hW.sor h h'
/-- how many times are less loud -/
def ltT (f g : Nat → Int) : Nat → Int
  | 0 => 0
  | n + 1 => ltT f g n + (if f n < g n then 1 else 0)
theorem ltT_b (f g : Nat → Int) : ∀ n : Nat, 0 ≤ ltT f g n ∧ ltT f g n ≤ n
  | 0 => ⟨Int.le_refl _, Int.le_refl _⟩
  | n + 1 => by
    have := ltT_b f g n
    unfold ltT
    split <;> omega
theorem ltT_hi {f g : Nat → Int} {n : Nat} : ∀ (k : Nat), (∀ t, n ≤ t → f t = g t) → ltT f g (n + k) = ltT f g n
  | 0, _ => rfl
  | k + 1, h => by
    show ltT f g (n + k) + (if f (n + k) < g (n + k) then 1 else 0) = _
    rw [ltT_hi k h, h (n + k) (by omega), if_neg (by omega)]
    omega
/-- the first of the least -/
def mnS (g : Nat → Int) : Nat → Int × Int
  | 0 => (-1, 49)
  | n + 1 => if g n < (mnS g n).2 then ((n : Int), g n) else mnS g n
def misG (p : Rw) (r w : Nat) : Int := ltT (hearM (rup p (18 + 7 * r + w) 0) r) (hearM p r) 48
def missF (p : Rw) (r : Nat) : Int := (mnS (misG p r) 4).1
theorem c_less {f g : Nat → Int} (hf : ∀ t, t < 48 → V 384 t = f t) (hg : ∀ t, t < 48 → V 385 t = g t) (h : Q (.inl (some (vi (ltT f g 48)))) V D) : RY d 316 0 [vr 384, vr 385, vr 0, vr 0] [] V D Q := by
  refine u_316_0 ?_
  have main : ∀ (n k : Nat), k + n = 48 → RY d 316 4 [vr 384, vr 385, vi (ltT f g k), vi (k : Int)] [] V D Q := by
    intro n
    induction n with
    | zero =>
      intro k hk
      have : k = 48 := by omega
      subst this
      exact u_316_4 ⟨fun _ => h, fun h5 => by omega⟩
    | succ n ih =>
      intro k hk
      have hb := ltT_b f g k
      have := ih (k + 1) (by omega)
      unfold ltT at this
      have hK := rep_K (rep384 (n := 0) (by omega)) D.2.2.1
      have hK' := rep_K (rep384 (n := 1) (by omega)) D.2.2.1
      refine u_316_4 ⟨fun h5 => by omega, fun _ => ⟨by decide, ?_, ?_, by decide, ?_, ?_, ?_⟩⟩
      · exact ⟨Nat.le_of_ble_eq_true rfl, Nat.le_of_ble_eq_true rfl⟩
      · exact ⟨by omega, by show (k : Int) < ((48 : Nat) : Int); omega⟩
      · exact ⟨Nat.le_of_ble_eq_true rfl, Nat.le_of_ble_eq_true rfl⟩
      · exact ⟨by omega, by show (k : Int) < ((48 : Nat) : Int); omega⟩
      · rw [nn_toNat, hf k (by omega), hg k (by omega), wr_id (x := (k : Int) + 1) (by omega) (by omega), wr_id (x := ltT f g k + 1) (by omega) (by omega)]
        refine ⟨fun h5 => ?_, fun h5 => ?_⟩
        · rw [if_neg (by omega), Int.add_zero] at this; exact this
        · rw [if_pos h5] at this; exact this
  exact main 48 0 (by omega)
/-- cells for a house that is not kept -/
abbrev aSk : List Nat := [254, 255, 384, 385, 95, 389]
theorem aSk_cor {V V' : xF} (F : Fr aSk V V') : Cor V V' := F.cor (by decide)
theorem c_missed {r : Nat} (hS : St V 92 p) (hB : V 2 = xback5) (hW : WF p) (hr : (r : Int) < p 3) (h : ∀ V', Cor V V' → Q (.inl (some (vi (missF p r)))) V' D) : RY d 239 0 [vr 382, vr 92, vi (r : Int), vr 0, vr 0, vr 0, vr 0, vr 0] [] V D Q := by
  obtain ⟨r5, hw, hd⟩ := hW.room hr
  unfold missF at h
  refine u_239_0_92 ⟨yg211_92 r5, c_mid_92 hS hB hW hr (rep384 (n := 1) (by omega)) (fun V1 h1 F1 => u_239_26_92 ?_)⟩
  have main : ∀ (n w : Nat) (V2 : xF) (v6 v7 : xV), w + n = 4 → St V2 92 p → (∀ t, t < 48 → V2 385 t = hearM p r t) → Fr aSk V V2 → RY d 239 29 [vr 382, vr 92, vi (r : Int), vi (mnS (misG p r) w).1, vi (mnS (misG p r) w).2, vi (w : Int), v6, v7] [] V2 D Q := by
    intro n
    induction n with
    | zero =>
      intro w V2 v6 v7 hw4 S2 h2 F2
      have : w = 4 := by omega
      subst this
      exact u_239_29_92 ⟨fun _ => h V2 (aSk_cor F2), fun h5 => by omega⟩
    | succ n ih =>
      intro w V2 v6 v7 hw4 S2 h2 F2
      have w4 : w < 4 := by omega
      refine u_239_29_92 ⟨fun h5 => by omega, fun _ => ?_⟩
      rw [wr_id (x := 4 * (r : Int)) (by omega) (by omega), wr_id (x := 4 * (r : Int) + (w : Int)) (by omega) (by omega), show (4 * (r : Int) + (w : Int)).toNat = 4 * r + w by omega]
      refine ⟨by omega, by omega, ?_⟩
      rintro V3 rfl
      have eS : V2 95 (4 * r + w) = rS p r w := S2.2.2.2.1 r w r5 w4
      have S3 := st_sort (z := 0) S2 r5 w4
      have W3 := hW.sort (z := 0) r5 w4 (by omega)
      have e3 : rup p (18 + 7 * r + w) 0 3 = p 3 := rup_n (by omega)
      refine ⟨yg211_92 r5, c_mid_92 S3 (by rw [up2_na (by decide), F2.at_ 2 (by decide)]; exact hB) W3 (by rw [e3]; exact hr) (rep384 (n := 0) (by omega)) (fun V4 h4 F4 => u_239_80_92 ?_)⟩
      rw [wr_id (x := 4 * (r : Int)) (by omega) (by omega), wr_id (x := 4 * (r : Int) + (w : Int)) (by omega) (by omega), show (4 * (r : Int) + (w : Int)).toNat = 4 * r + w by omega]
      refine ⟨by omega, ?_⟩
      rintro V5 rfl
      have S4 : St V4 92 (rup p (18 + 7 * r + w) 0) := St.keep S3 (fun k hk => F4.at_ _ (by simp only [List.mem_cons, List.not_mem_nil, or_false]; omega))
      have S5 := st_sort (z := rS p r w) S4 r5 w4
      have S5' : St (up2 V4 95 (4 * r + w) (rS p r w)) 92 p := St.ext S5 (fun k hk => by
        unfold rup
        by_cases e : k = 18 + 7 * r + w
        · rw [if_pos e, e]; rfl
        · rw [if_neg e, if_neg e])
      rw [eS]
      have g5 : ∀ t, t < 48 → up2 V4 95 (4 * r + w) (rS p r w) 385 t = hearM p r t := fun t ht => by rw [up2_na (by decide), F4.at_ 385 (by decide), up2_na (by decide)]; exact h2 t ht
      refine c_less (f := hearM (rup p (18 + 7 * r + w) 0) r) (g := hearM p r) (fun t ht => by rw [up2_na (by decide)]; exact h4 t ht) g5 (u_239_108_92 ?_)
      have F5 : Fr aSk V (up2 V4 95 (4 * r + w) (rS p r w)) := F2.tr (((Fr.up (by decide)).tr (F4.sub (by decide))).tr (Fr.up (by decide)))
      have em : mnS (misG p r) (w + 1) = if misG p r w < (mnS (misG p r) w).2 then ((w : Int), misG p r w) else mnS (misG p r) w := rfl
      rw [wr_id (x := (w : Int) + 1) (by omega) (by omega)]
      have hmg : ltT (hearM (rup p (18 + 7 * r + w) 0) r) (hearM p r) 48 = misG p r w := rfl
      rw [hmg]
      have nx := fun v6 v7 => ih (w + 1) _ v6 v7 (by omega) S5' g5 F5
      refine ⟨fun h5 => ?_, fun h5 => ?_⟩
      · rw [if_neg (by omega)] at em
        rw [em] at nx
        exact nx _ _
      · rw [if_pos h5] at em
        rw [em] at nx
        exact nx _ _
  exact main 4 0 V1 _ _ (by omega) (St.keep hS (fun k hk => F1.at_ _ (by simp only [List.mem_cons, List.not_mem_nil, or_false]; omega))) h1 (F1.sub (by decide))
theorem mi406 {r w : Nat} (hr : r < 5) (hw : w < 4) : wr ((wr ((wr ((16 : Int) + (wr ((7 : Int) * (r : Int))))) + 2)) + (w : Int)) = (((18 + 7 * r + w : Nat)) : Int) := by
  rw [wr_id (x := 7 * (r : Int)) (by omega) (by omega), wr_id (x := 16 + 7 * (r : Int)) (by omega) (by omega), wr_id (x := 16 + 7 * (r : Int) + 2) (by omega) (by omega), wr_id (by omega) (by omega)]
  omega
theorem m_missed {r : Nat} (hW : WF (V 406)) (hr : (r : Int) < V 406 3) (h : ∀ V', Fr [412, 413, 414] V V' → Q (.inl (some (vi (missF (V 406) r)))) V' D) : RY d 138 0 [vr 405, vi (r : Int), vr 0, vr 0, vr 0, vr 0, vr 0, vr 0] [] V D Q := by
  obtain ⟨r5, hw, hd⟩ := hW.room hr
  unfold missF at h
  refine u_138_0 ?_
  have less : ∀ (f g : Nat → Int) (i2 i3 i4 i6 : Int) (V1 : xF), (∀ t, t < 64 → V1 412 t = f t) → (∀ t, t < 64 → V1 414 t = g t) → ((ltT f g 64 < i3 → RY d 138 9 [vr 405, vi (r : Int), vi i4, vi (ltT f g 64), vi (wr (i4 + 1)), vi (ltT f g 64), vi i6, vi 64] [] V1 D Q) ∧ (i3 ≤ ltT f g 64 → RY d 138 9 [vr 405, vi (r : Int), vi i2, vi i3, vi (wr (i4 + 1)), vi (ltT f g 64), vi i6, vi 64] [] V1 D Q)) → RY d 138 87 [vr 405, vi (r : Int), vi i2, vi i3, vi i4, vi 0, vi i6, vi 0] [] V1 D Q := by
    intro f g i2 i3 i4 i6 V1 hf hg hx
    have main : ∀ (n k : Nat), k + n = 64 → RY d 138 87 [vr 405, vi (r : Int), vi i2, vi i3, vi i4, vi (ltT f g k), vi i6, vi (k : Int)] [] V1 D Q := by
      intro n
      induction n with
      | zero =>
        intro k hk
        have : k = 64 := by omega
        subst this
        exact u_138_87 ⟨fun _ => hx, fun h5 => by omega⟩
      | succ n ih =>
        intro k hk
        have hb := ltT_b f g k
        have := ih (k + 1) (by omega)
        unfold ltT at this
        refine u_138_87 ⟨fun h5 => by omega, fun _ => ⟨by omega, by omega, ?_⟩⟩
        rw [nn_toNat, hf k (by omega), hg k (by omega), wr_id (x := (k : Int) + 1) (by omega) (by omega), wr_id (x := ltT f g k + 0) (by omega) (by omega), wr_id (x := ltT f g k + 1) (by omega) (by omega)]
        refine ⟨fun h5 => ?_, fun h5 => ?_⟩
        · rw [if_neg (by omega)] at this; exact this
        · rw [if_pos h5] at this; exact this
    exact main 64 0 (by omega)
  have main : ∀ (n w : Nat) (i2 i3 : Int) (V2 : xF) (v5 v6 v7 : xV), w + n = 4 → ((i2, i3) = mnS (misG (V 406) r) w ∨ (w = 0 ∧ i2 = -1 ∧ i3 = 2000000000)) → Fr [412, 413, 414] V V2 → RY d 138 9 [vr 405, vi (r : Int), vi i2, vi i3, vi (w : Int), v5, v6, v7] [] V2 D Q := by
    intro n
    induction n with
    | zero =>
      intro w i2 i3 V2 v5 v6 v7 hw4 hm F2
      have : w = 4 := by omega
      subst this
      have e : i2 = (mnS (misG (V 406) r) 4).1 := by
        rcases hm with hm | hm
        · rw [← hm]
        · omega
      rw [e]
      exact u_138_9 ⟨fun _ => h V2 F2, fun h5 => by omega⟩
    | succ n ih =>
      intro w i2 i3 V2 v5 v6 v7 hw4 hm F2
      have w4 : w < 4 := by omega
      have e6 : V2 406 = V 406 := F2.at_ 406 (by decide)
      refine u_138_9 ⟨fun h5 => by omega, fun _ => m_mid (by rw [e6]; exact hW) (by rw [e6]; exact hr) ?_⟩
      rw [e6]
      intro V3 h3 F3
      refine u_138_20 (m_keeps h3 (fun V4 h4 F4 => u_138_26 ?_))
      have e64 : V4 406 = V 406 := by rw [F4.at_ 406 (by decide), F3.at_ 406 (by decide), e6]
      have ew : wr (2 + (w : Int)) = (((2 + w : Nat)) : Int) := by rw [wr_id (by omega) (by omega)]; omega
      rw [mi406 r5 w4, ew, yr133_w r5 w4, nn_toNat, e64]
      clear ew
      refine ⟨yg133 r5 (by omega), by omega, ?_⟩
      rintro V5 hV5
      have e65 : V5 406 = rup (V 406) (18 + 7 * r + w) 0 := by
        rw [hV5]
        funext k
        rw [up2_a, e64]
        rfl
      have W5 := hW.sort (z := 0) r5 w4 (by omega)
      have e3 : rup (V 406) (18 + 7 * r + w) 0 3 = V 406 3 := rup_n (by omega)
      refine m_mid (by rw [e65]; exact W5) (by rw [e65, e3]; exact hr) ?_
      rw [e65]
      intro V6 h6 F6
      refine u_138_60 ?_
      rw [mi406 r5 w4, nn_toNat]
      refine ⟨by omega, ?_⟩
      rintro V7 hV7
      have e67 : V7 406 = V 406 := by
        rw [hV7]
        funext k
        rw [up2_a, F6.at_ 406 (by decide), e65]
        unfold rup
        by_cases e : k = 18 + 7 * r + w
        · rw [if_pos e, e]; rfl
        · rw [if_neg e, if_neg e]
      have F7 : Fr [412, 413, 414] V V7 := by
        intro a ha
        by_cases e : a = 406
        · rw [e]; exact e67
        · rw [hV7, up2_na e, F6 a (fun hm => ha (by simp only [List.mem_cons, List.not_mem_nil, or_false] at hm ⊢; omega)), hV5, up2_na e, F4 a (fun hm => ha (by simp only [List.mem_cons, List.not_mem_nil, or_false] at hm ⊢; omega)), F3 a (fun hm => ha (by simp only [List.mem_cons, List.not_mem_nil, or_false] at hm ⊢; omega))]
          exact F2 a ha
      refine less (hearM (rup (V 406) (18 + 7 * r + w) 0) r) (hearM (V 406) r) i2 i3 (w : Int) _ V7 (fun t ht => by rw [hV7, up2_na (by decide)]; exact h6 t ht) (fun t ht => by rw [hV7, up2_na (by decide), F6.at_ 414 (by decide), hV5, up2_na (by decide)]; exact h4 t ht) ?_
      have eg : ltT (hearM (rup (V 406) (18 + 7 * r + w) 0) r) (hearM (V 406) r) 64 = misG (V 406) r w := by
        refine ltT_hi (n := 48) 16 (fun t ht => ?_)
        rw [hearM_hi W5 (by rw [e3]; exact hr) ht, hearM_hi hW hr ht]
      rw [eg, wr_id (x := (w : Int) + 1) (by omega) (by omega)]
      have hb : misG (V 406) r w ≤ 48 := (ltT_b _ _ 48).2
      have hb0 : 0 ≤ misG (V 406) r w := (ltT_b _ _ 48).1
      have em : mnS (misG (V 406) r) (w + 1) = if misG (V 406) r w < (mnS (misG (V 406) r) w).2 then ((w : Int), misG (V 406) r w) else mnS (misG (V 406) r) w := rfl
      refine ⟨fun h5 => ih (w + 1) _ _ V7 _ _ _ (by omega) (Or.inl ?_) F7, fun h5 => ih (w + 1) _ _ V7 _ _ _ (by omega) (Or.inl ?_) F7⟩
      · rw [em, if_pos]
        rcases hm with hm | ⟨h0, -, -⟩
        · rw [← hm]; exact h5
        · subst h0; show misG (V 406) r 0 < 49; omega
      · rw [em, if_neg]
        · rcases hm with hm | hm
          · exact hm
          · omega
        · rcases hm with hm | hm
          · rw [← hm]; dsimp only; omega
          · omega
  exact main 4 0 (-1) 2000000000 V _ _ _ (by omega) (Or.inr ⟨rfl, rfl, rfl⟩) Fr.rf
end HANGS
