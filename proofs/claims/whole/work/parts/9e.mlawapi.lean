/-! ===== LAW: THE MODEL ===== -/
/-- the row with a law's text -/
def lwR (p : Rw) (b : Nat → Int) (m l : Nat) : Rw := fun k => if k = 1 then (l : Int) else if k = 2 then (m : Int) else if 331 ≤ k ∧ k < 331 + m then b (k - 331) else p k
/-- what a reading leaves: fault, count of past rows -/
def rdM (V V' : xF) (f c : Int) : Prop := (∀ a, a ≠ 405 → a ≠ 406 → V' a = V a) ∧ V' 405 3 = V 405 3 ∧ V' 405 8 = 0 ∧ V' 405 12 = f ∧ V' 405 6 = c ∧ Bv V'
section MLAWAPI
variable {d : Nat} {V : xF} {D : yD} {Q : xRes → xF → yD → Prop} {b : Nat → Int} {T : TK} {m N : Nat}
theorem ma_law (h8 : V 405 8 = (m : Int)) (hm : m ≤ 400) (hb : ∀ k, k < 400 → V 410 k = b k) (hTb : T.1 = b) (hT : okT T m N) (hw : Ws V) (hB : Bv V) (hd : 30 ≤ d)
    (h : qOk (pLaw T N) (fun _ ls => ∀ V', V' 405 0 = 0 → rdM V V' (-1) 0 → V' 406 = lwR (V 406) b m ls.length → Q (.inl (some (vi (ls.length : Int)))) V' D) (fun e => ∀ V', V' 405 0 = 1 → rdM V V' (T.2.2.1 e) (V 405 6) → V' 406 = V 406 → Q (.inl (some (vi 0))) V' D)) : RY d 10 0 [vr 405, vr 0, vr 0] [] V D Q := by
  refine u_10_0 ?_
  rintro V1 hV1 V2 hV2 V3 hV3 V4 hV4 V5 hV5 V6 hV6
  obtain ⟨W, hW⟩ : ∃ W : xF, W = up2 (up2 (up2 V 405 9 (-1)) 405 10 (m : Int)) 405 8 0 := ⟨_, rfl⟩
  have e28 : V2 405 8 = (m : Int) := by rw [hV2, up2_ni (by decide), hV1, up2_ni (by decide)]; exact h8
  rw [e28] at hV3
  have e6 : V6 = mst W 0 (-1) 0 := by
    rw [hV6, hV5, hV4, hV3, hV2, hV1, hW]
    funext c i
    unfold mst up2
    (repeat' split) <;> first | rfl | omega
  have n1 : ∀ a, a ≠ 405 → W a = V a := fun a ha => by rw [hW, up2_na ha, up2_na ha, up2_na ha]
  have n2 : ∀ i, W 405 i = if i = 8 then 0 else if i = 10 then (m : Int) else if i = 9 then -1 else V 405 i := fun i => by rw [hW, up2_a, up2_a, up2_a]
  have hLR : LR W T m N := by
    refine ⟨hT, ⟨by rw [n2]; rfl, hm, Or.inl ⟨by rw [n2]; rfl, fun k hk => by rw [n1 410 (by decide), hTb]; exact hb k (by omega)⟩⟩, fun a g1 g2 i => by rw [n1 a (by omega)]; exact hw a g1 g2 i, ?_⟩
    unfold Bv
    rw [n2 15, n2 16]
    exact hB
  have hb0 := hT.bnd (Nat.zero_le N)
  rw [e6]
  clear hV1 hV2 hV3 hV4 hV5 hV6 e28 e6
  -- behind the reading
  have aft : ∀ (a' f dp' r z : Int) (V7 : xF), V7 = mst (vL W r z) a' f dp' → (∀ a, a ≠ 405 → V7 a = V a) ∧ V7 405 3 = V 405 3 ∧ V7 405 8 = 0 ∧ V7 405 12 = f ∧ V7 405 6 = V 405 6 ∧ V7 405 10 = (m : Int) ∧ Bv V7 := by
    intro a' f dp' r z V7 hV7
    have k : ∀ i, i ≠ 11 → i ≠ 12 → i ≠ 13 → i ≠ 17 → i ≠ 18 → V7 405 i = W 405 i := fun i h1 h2 h3 h4 h5 => by rw [hV7, mst_k h1 h2 h3, vL_k h4 h5]
    refine ⟨fun a ha => by rw [hV7, mst_n ha, vL_n ha, n1 a ha], ?_, ?_, by rw [hV7, mst_12], ?_, ?_, ?_⟩
    · rw [k 3 (by decide) (by decide) (by decide) (by decide) (by decide), n2]; rfl
    · rw [k 8 (by decide) (by decide) (by decide) (by decide) (by decide), n2]; rfl
    · rw [k 6 (by decide) (by decide) (by decide) (by decide) (by decide), n2]; rfl
    · rw [k 10 (by decide) (by decide) (by decide) (by decide) (by decide), n2]; rfl
    · unfold Bv
      rw [k 15 (by decide) (by decide) (by decide) (by decide) (by decide), k 16 (by decide) (by decide) (by decide) (by decide) (by decide)]
      exact hLR.2.2.2
  refine m_lread hLR hd (a := 0) ⟨Int.le_refl _, hb0.1⟩ ?_
  obtain ⟨⟨e, o⟩, hr⟩ : ∃ r, r = pLaw T N := ⟨_, rfl⟩
  rw [← hr] at h ⊢
  cases o with
  | none =>
    intro n a' dp' r z he _
    obtain ⟨A1, A3, A8, A12, A6, A10, AB⟩ := aft a' (T.2.2.1 e) dp' r z _ rfl
    show RY d 10 9 _ _ _ D Q
    have hBe := hT.bnd he
    have hne : T.2.2.1 e ≠ -1 := fun x => absurd (x ▸ hBe.1) (by decide)
    refine u_10_9 ⟨fun g => absurd (A12.symm.trans g) hne, fun _ => ?_⟩
    rintro V8 hV8
    have t0 : V8 405 0 = 1 := by rw [hV8]; exact v405.1
    refine ⟨fun g => by omega, fun _ => h V8 t0 ⟨fun a h5 h6 => by rw [hV8, up2_na h5]; exact A1 a h5, ?_, ?_, ?_, ?_, ?_⟩ (by rw [hV8, up2_na (by decide)]; exact A1 406 (by decide))⟩
    · rw [hV8, up2_ni (by decide)]; exact A3
    · rw [hV8, up2_ni (by decide)]; exact A8
    · rw [hV8, up2_ni (by decide)]; exact A12
    · rw [hV8, up2_ni (by decide)]; exact A6
    · unfold Bv; rw [hV8, up2_ni (by decide), up2_ni (by decide)]; exact AB
  | some ls =>
    intro a' r z _ _
    obtain ⟨A1, A3, A8, A12, A6, A10, AB⟩ := aft a' (-1) 0 r z _ rfl
    obtain ⟨V7, hV7⟩ : ∃ V7, V7 = mst (vL W r z) a' (-1) 0 := ⟨_, rfl⟩
    rw [← hV7] at A1 A3 A8 A12 A6 A10 AB ⊢
    show RY d 10 9 _ _ V7 D Q
    refine u_10_9 ⟨fun _ => ?_, fun g => absurd A12 g⟩
    rintro V8 hV8
    have t0 : V8 405 0 = 0 := by rw [hV8]; exact v405.1
    refine ⟨fun _ => ?_, fun g => by omega⟩
    rintro V9 hV9 V10 hV10
    have f405 : V10 405 = V8 405 := by rw [hV10, up2_na (by decide), hV9, up2_na (by decide)]
    have f9 : V9 405 10 = (m : Int) := by rw [hV9, up2_na (by decide), hV8, up2_ni (by decide)]; exact A10
    rw [f9] at hV10
    have r10 : ∀ k, V10 406 k = if k = 2 then (m : Int) else if k = 1 then (ls.length : Int) else V 406 k := fun k => by rw [hV10, up2_a, hV9, up2_a, hV8, up2_na (by decide), A1 406 (by decide)]
    have o10 : ∀ a, a ≠ 405 → a ≠ 406 → V10 a = V a := fun a h5 h6 => by rw [hV10, up2_na h6, hV9, up2_na h6, hV8, up2_na h5]; exact A1 a h5
    have go : ∀ (q k : Nat) (Vc : xF), q + k = m → Fr [406] V10 Vc → (∀ i, Vc 406 i = if 331 ≤ i ∧ i < 331 + k then b (i - 331) else V10 406 i) → RY d 10 55 [vr 405, vi (ls.length : Int), vi (k : Int)] [] Vc D Q := by
      intro q
      induction q with
      | zero =>
        intro k Vc hk hF hR
        have hk : k = m := by omega
        subst hk
        have e10 : Vc 405 10 = (k : Int) := by rw [hF.at_ 405 (by decide), f405, hV8, up2_ni (by decide)]; exact A10
        refine u_10_55 ⟨fun _ => ?_, fun hlt => by rw [e10] at hlt; omega⟩
        rintro Vz hVz
        have c : ∀ i, i ≠ 0 → i ≠ 6 → Vz 405 i = V7 405 i := fun i h0 h6 => by rw [hVz, up2_ni h6, hF.at_ 405 (by decide), f405, hV8, up2_ni h0]
        refine h Vz ?_ ⟨fun a h5 h6 => ?_, ?_, ?_, ?_, ?_, ?_⟩ ?_
        · rw [hVz, up2_ni (by decide), hF.at_ 405 (by decide), f405]; exact t0
        · rw [hVz, up2_na h5, hF a (by simpa using h6)]; exact o10 a h5 h6
        · rw [c 3 (by decide) (by decide)]; exact A3
        · rw [c 8 (by decide) (by decide)]; exact A8
        · rw [c 12 (by decide) (by decide)]; exact A12
        · rw [hVz, up2_at]
        · unfold Bv; rw [c 15 (by decide) (by decide), c 16 (by decide) (by decide)]; exact AB
        · funext i
          rw [hVz, up2_na (by decide), hR, r10]
          unfold lwR
          (repeat' split) <;> first | rfl | omega
      | succ q ih =>
        intro k Vc hk hF hR
        have e10 : Vc 405 10 = (m : Int) := by rw [hF.at_ 405 (by decide), f405, hV8, up2_ni (by decide)]; exact A10
        have e1 : wr ((k : Int) + 1) = ((k + 1 : Nat) : Int) := by rw [wr_id (by omega) (by omega)]; omega
        have e2 : wr ((331 : Int) + (k : Int)) = ((331 + k : Nat) : Int) := by clear e1; rw [wr_id (by omega) (by omega)]; omega
        refine u_10_55 ⟨fun hle => by rw [e10] at hle; clear e1 e2; omega, fun _ => ⟨by clear e1 e2; omega, by rw [e2]; clear e1 e2; omega, ?_⟩⟩
        rintro Vz hVz
        rw [e2, nn_toNat, nn_toNat, hF.at_ 410 (by decide), o10 410 (by decide) (by decide), hb k (by clear e1 e2; omega)] at hVz
        rw [e1]
        clear e1 e2
        refine ih (k + 1) Vz (by omega) (by rw [hVz]; exact hF.tr (Fr.up (by decide))) fun i => ?_
        rw [hVz, up2_a, hR]
        by_cases ei : i = 331 + k
        · rw [if_pos ei, if_pos (by omega), ei, show 331 + k - 331 = k by omega]
        · rw [if_neg ei]
          by_cases e2 : 331 ≤ i ∧ i < 331 + k
          · rw [if_pos e2, if_pos (by omega)]
          · rw [if_neg e2, if_neg (by omega)]
    exact go m 0 V10 (by omega) Fr.rf (fun i => by rw [if_neg (by omega)])
end MLAWAPI
