/-! ===== HOUSE: THE MODEL ===== -/
/-- what a reading of a house leaves -/
def rdH (V V' : xF) (f c : Int) : Prop := (∀ a, a ≠ 405 → a ≠ 406 → a ≠ 408 → V' a = V a) ∧ V' 405 3 = V 405 3 ∧ V' 405 8 = 0 ∧ V' 405 12 = f ∧ V' 405 6 = c ∧ Bv V'
section MHREAD
variable {V : xF} {D : yD} {T : TK} {m N : Nat} {p : Rw} {a : Int}
theorem m_hread (hR : HR V T m N) (hW : WF p) {d : Nat} {Q : xRes → xF → yD → Prop} (ha : Ah T 0 a)
    (h : qOk (hHouse T N p) (fun _ q => ∀ n a', Q (.inl (some (vi n))) (mst (r6 V q) a' (-1) 0) D) (fun e => ∀ n a' q, e ≤ N → keepR p q → Q (.inl (some (vi n))) (mst (r6 V q) a' (T.2.2.1 e) 0) D)) : RY d 128 0 [vr 405, vi 0, vr 0, vr 0] [] (mst (r6 V p) a (-1) 0) D Q := by
  have hT := hR.1
  have hm4 := hR.2.1.2.1
  have hb0 := hT.bnd (Nat.zero_le N)
  have hM : ∀ q : Rw, MT (r6 V q) T.1 m := fun q => (hR.lr (p := q)).2.1
  have hnn : ∀ {i : Nat}, i ≤ N → T.2.2.1 i ≠ -1 := fun hi => (hR.nn hi).1
  refine u_128_0 (m_skip hT (hM p) (Nat.zero_le N) ha (u_128_4 ?_))
  rw [mst_11, mst_k (by decide) (by decide) (by decide), (hM p).1]
  have bad : ∀ (go n : Int) (e' : Nat) (a' : Int) (q : Rw), hHouse T N p = (e', none) → e' ≤ N → keepR p q → RY d 128 23 [vr 405, vi 0, vi go, vi n] [] (mst (r6 V q) a' (T.2.2.1 e') 0) D Q := by
    intro go n e' a' q hp he hr
    rw [hp] at h
    have hh : Q (.inl (some (vi n))) (mst (r6 V q) a' (T.2.2.1 e') 0) D := h n a' q he hr
    refine u_128_23 ⟨fun _ => hh, fun _ => ?_⟩
    rw [mst_12]
    exact ⟨fun _ => hh, fun h5 => absurd h5 (hnn he)⟩
  have done : ∀ (a' n : Int) (q : Rw), hHouse T N p = (N, some q) → RY d 128 23 [vr 405, vi 0, vi 0, vi n] [] (mst (r6 V q) a' (-1) 0) D Q := by
    intro a' n q hp
    rw [hp] at h
    exact u_128_23 ⟨fun _ => h n a', fun h5 => absurd rfl h5⟩
  have loop : ∀ (n c i : Nat) (a : Int) (q : Rw), c + n = 14 → i ≤ N → Ah T i a → WF q → keepR p q → qOk (hLs T N n q i) (fun j l => hHouse T N p = (N, some l)) (fun e => hHouse T N p = (e, none)) → RY d 128 23 [vr 405, vi 0, vi 1, vi (c : Int)] [] (mst (r6 V q) a (-1) 0) D Q := by
    intro n
    induction n with
    | zero =>
      intro c i a q hl hi hA hWq hk hp
      have hp : hHouse T N p = (i, none) := hp
      have hb := hT.bnd hi
      refine u_128_23 ⟨fun h5 => absurd h5 (by decide), fun _ => ?_⟩
      rw [mst_12]
      refine ⟨fun h5 => absurd rfl h5, fun _ => m_skip hT (hM q) hi hA (u_128_39 ⟨fun _ => ⟨fun h5 => by omega, fun _ => ?_⟩, fun h5 => absurd rfl h5⟩)⟩
      rw [mst_12, mst_11]
      refine ⟨fun h5 => absurd rfl h5, fun _ => ?_⟩
      rintro V1 rfl
      rw [mst_w12]
      refine m_skipF (hM q) (fun a' ha' => u_128_87 ?_) 400 _ (by omega) (by omega)
      rw [mst_12]
      exact ⟨fun _ => bad 0 _ i a' q hp hi hk, fun h5 => absurd h5 (hnn hi)⟩
    | succ n ih =>
      intro c i a q hl hi hA hWq hk hp
      have hb := hT.bnd hi
      unfold hLs at hp
      refine u_128_23 ⟨fun h5 => absurd h5 (by decide), fun _ => ?_⟩
      rw [mst_12]
      refine ⟨fun h5 => absurd rfl h5, fun _ => m_skip hT (hM q) hi hA (u_128_39 ⟨fun _ => ⟨fun _ => ⟨fun _ => ?_, fun h5 => absurd rfl h5⟩, fun h5 => by omega⟩, fun h5 => absurd rfl h5⟩)⟩
      refine m_houseLine hR hWq hi (Ah.beg hT hi) ?_
      have hok := hLine_ok hT hWq hi
      obtain ⟨⟨j, o⟩, hr⟩ : ∃ r, r = hLine T q i := ⟨_, rfl⟩
      rw [← hr] at hp hok ⊢
      have en : wr ((c : Int) + 1) = ((c + 1 : Nat) : Int) := by rw [wr_id (by omega) (by omega)]; omega
      cases o with
      | none =>
        have hp : hHouse T N p = (j, none) := hp
        have hj : j ≤ N := hok
        intro a' ha1
        show RY d 128 80 _ _ _ D Q
        refine u_128_80 (m_skipF (hM q) (fun a2 ha' => u_128_87 ?_) 400 _ ha1 (by omega))
        rw [mst_12]
        exact ⟨fun _ => bad 0 _ j a2 q hp hj hk, fun h5 => absurd h5 (hnn hj)⟩
      | some q' =>
        obtain ⟨hij, hjN, hWq', hk'⟩ := hok
        have hp : qOk (qif (j = N) (j, some q') (qif (kS T j 59) (hLs T N n q' (j + 1)) (j, none))) (fun j l => hHouse T N p = (N, some l)) (fun e => hHouse T N p = (e, none)) := hp
        intro a' hA'
        have hb2 := hT.bnd hjN
        show RY d 128 80 _ _ _ D Q
        refine u_128_80 (m_skip hT (hM q') hjN hA' (u_128_87 ?_))
        rw [mst_12, mst_11, mst_k (by decide) (by decide) (by decide), (hM q').1, en]
        clear en
        refine ⟨fun h5 => absurd rfl h5, fun _ => ⟨fun h5 => ?_, fun h5 => ?_⟩⟩
        · have ej : j ≠ N := by
            intro e
            rw [e] at h5
            exact h5 hT.2.2.1
          rw [qif_n ej] at hp
          refine (hR.lr (p := q')).sgn (by decide) hjN (Ah.beg hT hjN) (fun hlt ht => u_128_117 ⟨fun h6 => absurd h6 (by decide), fun _ => ?_⟩) (fun ht => u_128_117 ⟨fun _ => ?_, fun h6 => absurd rfl h6⟩)
          · rw [qif_y ht] at hp
            rintro V2 rfl
            rw [mst_w11, mst_11]
            exact ih (c + 1) (j + 1) (wr (T.2.2.1 j + 1)) q' (by omega) hlt (Ah.sgn hT hm4 hjN ht).1 hWq' (hk.tr hk') hp
          · rw [qif_n ht] at hp
            have hp : hHouse T N p = (j, none) := hp
            rw [mst_12, mst_11]
            refine ⟨fun h6 => absurd rfl h6, fun _ => ?_⟩
            rintro V2 rfl
            rw [mst_w12]
            exact bad _ _ j _ q' hp hjN (hk.tr hk')
        · have ej : j = N := by
            apply Classical.byContradiction
            intro e
            have := hb2.2.2.2 (by omega)
            omega
          rw [qif_y ej] at hp
          have hp : hHouse T N p = (N, some q') := hp
          exact done (T.2.2.1 j) _ q' hp
  by_cases eN : N = 0
  · have e0 : T.2.2.1 0 = (m : Int) := by rw [← eN]; exact hT.2.2.1
    have hp : hHouse T N p = (N, some p) := by unfold hHouse; rw [if_pos eN, eN]
    exact ⟨fun _ => done (T.2.2.1 0) _ p hp, fun h5 => by omega⟩
  · have hlt := hb0.2.2.2 (by omega)
    refine ⟨fun h5 => by omega, fun _ => ?_⟩
    refine loop 14 0 0 (T.2.2.1 0) p rfl (Nat.zero_le N) (Ah.beg hT (Nat.zero_le N)) hW keepR.rf ?_
    have hok := hLs_ok hT 14 hW (Nat.zero_le N)
    have eH : hHouse T N p = hLs T N 14 p 0 := by unfold hHouse; rw [if_neg eN]
    rw [eH]
    obtain ⟨⟨j, o⟩, hr⟩ : ∃ r, r = hLs T N 14 p 0 := ⟨_, rfl⟩
    rw [← hr] at hok ⊢
    cases o with
    | none => rfl
    | some q =>
      have hj : j = N := hok.1
      show (j, some q) = (N, some q)
      rw [hj]
theorem ma_house {d : Nat} {b : Nat → Int} {Q : xRes → xF → yD → Prop} (h8 : V 405 8 = (m : Int)) (hm : m ≤ 400) (hb : ∀ k, k < 400 → V 410 k = b k) (hTb : T.1 = b) (hT : okT T m N) (hw : Ws V) (hB : Bv V) (hW : WF (V 406))
    (h : qOk (hHouse T N (V 406)) (fun _ q => (V 406 0 ≠ 12 → ∀ V', V' 405 0 = 0 → rdH V V' (-1) 0 → V' 406 = rup q 0 (V 406 0 + 1) → Q (.inl (some (vi (V 406 0 + 1)))) V' D) ∧ (V 406 0 = 12 → ∀ V', V' 405 0 = 2 → rdH V V' (-1) (V 405 6) → V' 406 = V 406 → Q (.inl (some (vi 0))) V' D)) (fun e => ∀ V', V' 405 0 = 1 → rdH V V' (T.2.2.1 e) (V 405 6) → V' 406 = V 406 → Q (.inl (some (vi 0))) V' D)) : RY d 7 0 [vr 405, vr 0] [] V D Q := by
  have h0 := hW.2.2.2.2.2.2.2.2.2.1
  refine u_7_0 (m_aside fun V0 h408 F0 => ?_)
  show RY d 7 4 _ _ V0 D Q
  refine u_7_4 ?_
  rintro V1 hV1 V2 hV2 V3 hV3 V4 hV4 V5 hV5 V6 hV6
  obtain ⟨W, hW0⟩ : ∃ W : xF, W = up2 (up2 (up2 V0 405 9 (-1)) 405 10 (m : Int)) 405 8 0 := ⟨_, rfl⟩
  have e28 : V2 405 8 = (m : Int) := by rw [hV2, up2_ni (by decide), hV1, up2_ni (by decide), F0.at_ 405 (by decide)]; exact h8
  rw [e28] at hV3
  have n1 : ∀ a, a ≠ 405 → a ≠ 408 → W a = V a := fun a ha h8' => by rw [hW0, up2_na ha, up2_na ha, up2_na ha]; exact F0 a (by simpa using h8')
  have n2 : ∀ i, W 405 i = if i = 8 then 0 else if i = 10 then (m : Int) else if i = 9 then -1 else V 405 i := fun i => by rw [hW0, up2_a, up2_a, up2_a, F0.at_ 405 (by decide)]
  have w408 : ∀ k, k < 331 → W 408 k = V 406 k := fun k hk => by rw [hW0, up2_na (by decide), up2_na (by decide), up2_na (by decide)]; exact h408 k hk
  have e6 : V6 = mst (r6 W (V 406)) 0 (-1) 0 := by
    have : r6 W (V 406) = W := by rw [← n1 406 (by decide) (by decide)]; exact r6_id
    rw [this, hV6, hV5, hV4, hV3, hV2, hV1, hW0]
    funext c i
    unfold mst up2
    (repeat' split) <;> first | rfl | omega
  have hR : HR W T m N := by
    refine ⟨hT, ⟨by rw [n2]; rfl, hm, by rw [n2]; rfl, fun k hk => by rw [n1 410 (by decide) (by decide), hTb]; exact hb k (by omega)⟩, fun a g1 g2 i => by rw [n1 a (by omega) (by omega)]; exact hw a g1 g2 i, ?_⟩
    unfold Bv
    rw [n2 15, n2 16]
    exact hB
  have hb0 := hT.bnd (Nat.zero_le N)
  rw [e6]
  clear hV1 hV2 hV3 hV4 hV5 hV6 e28 e6
  -- behind the reading
  have aft : ∀ (a' f : Int) (q : Rw), let S := mst (r6 W q) a' f 0; (∀ a, a ≠ 405 → a ≠ 406 → a ≠ 408 → S a = V a) ∧ S 406 = q ∧ (∀ k, k < 331 → S 408 k = V 406 k) ∧ S 405 3 = V 405 3 ∧ S 405 8 = 0 ∧ S 405 12 = f ∧ S 405 6 = V 405 6 ∧ Bv S := by
    intro a' f q S
    have k : ∀ i, i ≠ 11 → i ≠ 12 → i ≠ 13 → S 405 i = W 405 i := fun i h1 h2 h3 => by show mst (r6 W q) a' f 0 405 i = _; rw [mst_k h1 h2 h3, r6_n (by decide)]
    refine ⟨fun a ha h6 h8' => ?_, ?_, fun i hi => ?_, ?_, ?_, mst_12, ?_, ?_⟩
    · show mst (r6 W q) a' f 0 a = _
      rw [mst_n ha, r6_n h6, n1 a ha h8']
    · show mst (r6 W q) a' f 0 406 = _
      rw [mst_n (by decide), r6_6]
    · show mst (r6 W q) a' f 0 408 i = _
      rw [mst_n (by decide), r6_n (by decide)]; exact w408 i hi
    · rw [k 3 (by decide) (by decide) (by decide), n2]; rfl
    · rw [k 8 (by decide) (by decide) (by decide), n2]; rfl
    · rw [k 6 (by decide) (by decide) (by decide), n2]; rfl
    · unfold Bv
      rw [k 15 (by decide) (by decide) (by decide), k 16 (by decide) (by decide) (by decide)]
      exact hR.2.2.2
  -- all is as it was
  have undone : ∀ (S V1 : xF) (t f n : Int), (∀ a, a ≠ 405 → a ≠ 406 → a ≠ 408 → S a = V a) → (∀ k, 331 ≤ k → S 406 k = V 406 k) → (∀ k, k < 331 → S 408 k = V 406 k) → S 405 3 = V 405 3 → S 405 8 = 0 → S 405 12 = f → S 405 6 = V 405 6 → Bv S → V1 = up2 S 405 0 t → (∀ V', V' 405 0 = t → rdH V V' f (V 405 6) → V' 406 = V 406 → Q (.inl (some (vi 0))) V' D) → RY d 129 0 [vr 405, vr 0] [] V1 D (yback d 7 57 [vr 405, vi n] [] Q) := by
    intro S V1 t f n s1 s2 s3 s4 s5 s6 s7 s8 hV1 hh
    refine m_comes (p := V 406) (fun k hk => by rw [hV1, up2_na (by decide)]; exact s3 k hk) (fun k hk => by rw [hV1, up2_na (by decide)]; exact s2 k hk) fun V2 e2 F2 => ?_
    show RY d 7 57 _ _ V2 D Q
    refine u_7_57 ?_
    have c : ∀ i, i ≠ 0 → V2 405 i = S 405 i := fun i hi => by rw [F2.at_ 405 (by decide), hV1, up2_ni hi]
    refine hh V2 (by rw [F2.at_ 405 (by decide), hV1, up2_at]) ⟨fun a h5 h6 h8' => ?_, ?_, ?_, ?_, ?_, ?_⟩ e2
    · rw [F2 a (by simpa using h6), hV1, up2_na h5]; exact s1 a h5 h6 h8'
    · rw [c 3 (by decide)]; exact s4
    · rw [c 8 (by decide)]; exact s5
    · rw [c 12 (by decide)]; exact s6
    · rw [c 6 (by decide)]; exact s7
    · unfold Bv; rw [c 15 (by decide), c 16 (by decide)]; exact s8
  have hok := hHouse_ok hT hW
  refine m_hread hR hW (a := 0) ⟨Int.le_refl _, hb0.1⟩ ?_
  obtain ⟨⟨e, o⟩, hr⟩ : ∃ r, r = hHouse T N (V 406) := ⟨_, rfl⟩
  rw [← hr] at h hok ⊢
  cases o with
  | none =>
    have h : ∀ V', V' 405 0 = 1 → rdH V V' (T.2.2.1 e) (V 405 6) → V' 406 = V 406 → Q (.inl (some (vi 0))) V' D := h
    intro n a' q he hk
    obtain ⟨A1, A6, A8, A3, Az, A12, Ac, AB⟩ := aft a' (T.2.2.1 e) q
    obtain ⟨S, hS⟩ : ∃ S, S = mst (r6 W q) a' (T.2.2.1 e) 0 := ⟨_, rfl⟩
    rw [← hS] at A1 A6 A8 A3 Az A12 Ac AB
    show RY d 7 13 _ _ (mst (r6 W q) a' (T.2.2.1 e) 0) D Q
    rw [← hS]
    have hne : T.2.2.1 e ≠ -1 := (hR.nn he).1
    refine u_7_13 ⟨fun g => absurd (A12.symm.trans g) hne, fun _ V7 hV7 => ⟨fun g => ?_, fun _ => ?_⟩⟩
    · rw [hV7, up2_at] at g; exact absurd g (by decide)
    · exact undone S V7 1 _ n A1 (fun k hk' => by rw [A6]; exact hk.2.2.2.2 k hk') A8 A3 Az A12 Ac AB hV7 h
  | some q =>
    have h : (V 406 0 ≠ 12 → ∀ V', V' 405 0 = 0 → rdH V V' (-1) 0 → V' 406 = rup q 0 (V 406 0 + 1) → Q (.inl (some (vi (V 406 0 + 1)))) V' D) ∧ (V 406 0 = 12 → ∀ V', V' 405 0 = 2 → rdH V V' (-1) (V 405 6) → V' 406 = V 406 → Q (.inl (some (vi 0))) V' D) := h
    have hk : keepR (V 406) q := hok.2.2
    intro n a'
    obtain ⟨A1, A6, A8, A3, Az, A12, Ac, AB⟩ := aft a' (-1) q
    obtain ⟨S, hS⟩ : ∃ S, S = mst (r6 W q) a' (-1) 0 := ⟨_, rfl⟩
    rw [← hS] at A1 A6 A8 A3 Az A12 Ac AB
    show RY d 7 13 _ _ (mst (r6 W q) a' (-1) 0) D Q
    rw [← hS]
    have q0 : S 406 0 = V 406 0 := by rw [A6]; exact hk.1
    refine u_7_13 ⟨fun _ => ?_, fun g => absurd A12 g⟩
    rw [q0]
    refine ⟨fun hne V1 hV1 => ⟨fun _ V2 hV2 V3 hV3 => ?_, fun g => ?_⟩, fun he V4 hV4 => ⟨fun g => ?_, fun _ => ?_⟩⟩
    · have e1 : V1 406 0 = V 406 0 := by rw [hV1, up2_na (by decide)]; exact q0
      have e9 : wr (V 406 0 + 1) = V 406 0 + 1 := wr_id (by omega) (by omega)
      rw [e1, e9] at hV2
      have e3 : V3 406 0 = V 406 0 + 1 := by rw [hV3, up2_na (by decide), hV2, up2_at]
      rw [e3]
      clear e9
      have c : ∀ i, i ≠ 0 → i ≠ 6 → V3 405 i = S 405 i := fun i hi h6 => by rw [hV3, up2_ni h6, hV2, up2_na (by decide), hV1, up2_ni hi]
      refine h.1 hne V3 ?_ ⟨fun a h5 h6 h8' => ?_, ?_, ?_, ?_, ?_, ?_⟩ ?_
      · rw [hV3, up2_ni (by decide), hV2, up2_na (by decide), hV1, up2_at]
      · rw [hV3, up2_na h5, hV2, up2_na h6, hV1, up2_na h5]; exact A1 a h5 h6 h8'
      · rw [c 3 (by decide) (by decide)]; exact A3
      · rw [c 8 (by decide) (by decide)]; exact Az
      · rw [c 12 (by decide) (by decide)]; exact A12
      · rw [hV3, up2_at]
      · unfold Bv; rw [c 15 (by decide) (by decide), c 16 (by decide) (by decide)]; exact AB
      · funext i
        rw [hV3, up2_na (by decide), hV2, up2_a, hV1, up2_na (by decide), A6]
        rfl
    · rw [hV1, up2_at] at g; exact absurd g (by decide)
    · rw [hV4, up2_at] at g; exact absurd g (by decide)
    · exact undone S V4 2 _ n A1 (fun k hk' => by rw [A6]; exact hk.2.2.2.2 k hk') A8 A3 Az A12 Ac AB hV4 (h.2 he)
end MHREAD
