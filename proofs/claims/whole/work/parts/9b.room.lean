/-! ===== ROOM, TENANT ===== -/
noncomputable def roomF (p : Rw) (ls : List Ln) (r : Nat) (w : Int) : Int := if w = 0 then rW p r else if w = 1 then rD p r else if w = 2 then rS p r 0 else if w = 3 then rS p r 1 else if w = 4 then rS p r 2 else if w = 5 then rS p r 3 else if w = 6 then rR p r else if w = 7 then hdr p (r : Int) else if w = 8 then hcn p r else if w = 9 then muteF p r else if w = 10 then dinF p r else if w = 11 then missF p r else if w = 12 then dearF p ls r else shareF p r
noncomputable def aRoom (p : Rw) (ls : List Ln) (r w : Int) : aRes := aIf (0 ≤ r ∧ r < p 3) (aIf (0 ≤ w ∧ w ≤ 13) (.inl (roomF p ls r.toNat w)) (.inr 4)) (.inr 2)
noncomputable def tenF (p : Rw) (ls : List Ln) (t : Nat) (w : Int) : Int := if w = 0 then tP_ p t else if w = 1 then tW_ p t else if w = 2 then tL_ p t else if w = 3 then beF p ls 0 t else tradeF p ls t
noncomputable def aTenant (p : Rw) (ls : List Ln) (t w : Int) : aRes := aIf (0 ≤ t ∧ t < p 4) (aIf (0 ≤ w ∧ w ≤ 4) (.inl (tenF p ls t.toNat w)) (.inr 4)) (.inr 2)
section ROOM
variable {d : Nat} {V : xF} {D : yD} {Q : xRes → xF → yD → Prop} {p : Rw} {ls : List Ln}
theorem ca_room {r w : Int} (hS : St V 81 p) (hB : V 2 = xback5) (hW : WF p) (hO : LO V D (D.2.1 81) ls) (h : ∀ V' D', Cor V V' → CorD D D' → Q (cRes (aRoom p ls r w)) V' D') : RY d 131 0 [vr 70, vi r, vi w] [] V D Q := by
  unfold aRoom at h
  refine u_131_0 (c_needRoom hS (fun hr => ?_) (fun hn => ⟨rfl, by rw [aIf_n hn] at h; exact h V _ Cor.rf CorD.exc⟩))
  rw [aIf_y hr] at h
  obtain ⟨r, rfl⟩ : ∃ m : Nat, r = (m : Int) := ⟨r.toNat, by omega⟩
  rw [nn_toNat] at h
  have hr5 : r < 5 := by have := hW.1; omega
  have ok : ∀ (V' : xF) (D' : yD) (z : Int), Cor V V' → CorD D D' → 0 ≤ w → w ≤ 13 → z = roomF p ls r w → Q (.inl (some (vi z))) V' D' := by
    intro V' D' z hC hD w0 w1 hz
    rw [aIf_y ⟨w0, w1⟩] at h
    rw [hz]
    exact h V' D' hC hD
  have sort : ∀ k : Nat, k < 4 → w = ((2 + k : Nat) : Int) → roomF p ls r w = rS p r k → RY d 131 96 [vr 70, vi (r : Int), vi w] [] V D Q := by
    intro k hk hw hz
    subst hw
    have e : wr (wr (wr (4 * (r : Int)) + ((2 + k : Nat) : Int)) - 2) = ((4 * r + k : Nat) : Int) := by
      rw [wr_id (x := 4 * (r : Int)) (by omega) (by omega), wr_id (x := 4 * (r : Int) + _) (by omega) (by omega), wr_id (by omega) (by omega)]
      omega
    refine u_131_96 ?_
    rw [e, nn_toNat, show V 84 (4 * r + k) = rS p r k from hS.2.2.2.1 r k hr5 hk]
    exact ⟨by clear e; omega, ok V D _ Cor.rf CorD.rf (by clear e; omega) (by clear e; omega) hz.symm⟩
  refine u_131_5 ⟨⟨fun e => ⟨by omega, ?_⟩, fun e => ⟨by omega, ?_⟩, fun e => sort 0 (by omega) e (by subst e; rfl), fun e => sort 1 (by omega) e (by subst e; rfl), fun e => sort 2 (by omega) e (by subst e; rfl), fun e => sort 3 (by omega) e (by subst e; rfl), fun e => ⟨by omega, ?_⟩, fun e => ?_, fun e => ⟨yg211_81 hr5, ?_⟩, fun e => ?_, fun e => ?_, fun e => ?_, fun e => ?_, fun e => ?_, trivial⟩, fun e => ?_⟩
  · rw [nn_toNat, show V 82 r = rW p r from hS.2.1 r hr5]
    exact ok V D _ Cor.rf CorD.rf (by omega) (by omega) (by subst e; rfl)
  · rw [nn_toNat, show V 83 r = rD p r from hS.2.2.1 r hr5]
    exact ok V D _ Cor.rf CorD.rf (by omega) (by omega) (by subst e; rfl)
  · rw [nn_toNat, show V 85 r = rR p r from hS.2.2.2.2.1 r hr5]
    exact ok V D _ Cor.rf CorD.rf (by omega) (by omega) (by subst e; rfl)
  · refine c_holder_81 hS hW ?_
    show RY d 131 130 _ _ V D Q
    exact u_131_130 (ok V D _ Cor.rf CorD.rf (by omega) (by omega) (by subst e; rfl))
  · refine c_mid_81 hS hB hW hr.2 (Or.inl rfl) fun V1 h1 hF1 => ?_
    show RY d 131 155 _ _ V1 D Q
    refine u_131_155 (c_echoes (Or.inl rfl) h1 ?_)
    show RY d 131 162 _ _ V1 D Q
    rw [← hearM_cnt hW hr.2]
    exact u_131_162 (ok V1 D _ (hF1.cor (by decide)) CorD.rf (by omega) (by omega) (by subst e; rfl))
  · refine c_mute hS hB hW hr.2 fun V1 C1 => ?_
    show RY d 131 175 _ _ V1 D Q
    exact u_131_175 (ok V1 D _ C1 CorD.rf (by omega) (by omega) (by subst e; rfl))
  · refine c_din hS hB hW hr.2 fun V1 C1 => ?_
    show RY d 131 188 _ _ V1 D Q
    exact u_131_188 (ok V1 D _ C1 CorD.rf (by omega) (by omega) (by subst e; rfl))
  · refine c_scr hS hO fun V1 D1 hC hV2 hD _ h92 h81 hO92 hO81 => ?_
    show RY d 131 200 _ _ V1 D1 Q
    refine u_131_200 (c_missed h92 (by rw [hV2]; exact hB) hW hr.2 fun V2 C2 => ?_)
    show RY d 131 212 _ _ V2 D1 Q
    exact u_131_212 (ok V2 D1 _ (hC.tr C2) hD (by omega) (by omega) (by subst e; rfl))
  · refine lc_hear_81 hS hB hW hO fun V1 hL1 hF1 => ?_
    show RY d 131 224 _ _ V1 D Q
    refine u_131_224 (c_dear hL1 hr.2 fun V2 hF2 => ?_)
    show RY d 131 236 _ _ V2 D Q
    exact u_131_236 (ok V2 D _ ((FLcor hF1).tr (hF2.cor (by decide))) CorD.rf (by omega) (by omega) (by subst e; rfl))
  · refine c_share hS hW hr.2 ?_
    show RY d 131 249 _ _ V D Q
    exact u_131_249 (ok V D _ Cor.rf CorD.rf (by omega) (by omega) (by subst e; rfl))
  · rw [aIf_n (by omega)] at h
    exact h V _ Cor.rf CorD.exc
theorem ca_tenant {t w : Int} (hS : St V 81 p) (hB : V 2 = xback5) (hW : WF p) (hO : LO V D (D.2.1 81) ls) (h : ∀ V' D', Cor V V' → CorD D D' → Q (cRes (aTenant p ls t w)) V' D') : RY d 141 0 [vr 70, vi t, vi w] [] V D Q := by
  unfold aTenant at h
  refine u_141_0 (c_needTenant hS (fun t0 t1 => ?_) (fun hn => ⟨rfl, by rw [aIf_n hn] at h; exact h V _ Cor.rf CorD.exc⟩))
  rw [aIf_y ⟨t0, t1⟩] at h
  obtain ⟨t, rfl⟩ : ∃ m : Nat, t = (m : Int) := ⟨t.toNat, by omega⟩
  rw [nn_toNat] at h
  have ht5 := (hW.ten t1).1
  have ok : ∀ (V' : xF) (z : Int), Cor V V' → 0 ≤ w → w ≤ 4 → z = tenF p ls t w → Q (.inl (some (vi z))) V' D := by
    intro V' z hC w0 w1 hz
    rw [aIf_y ⟨w0, w1⟩] at h
    rw [hz]
    exact h V' D hC CorD.rf
  refine u_141_5 ⟨⟨fun e => ⟨by omega, ?_⟩, fun e => ⟨by omega, ?_⟩, fun e => ⟨by omega, ?_⟩, fun e => ?_, fun e => ?_, trivial⟩, fun e => ?_⟩
  · rw [nn_toNat, show V 87 t = tP_ p t from hS.2.2.2.2.2.2.2.1 t ht5]
    exact ok V _ Cor.rf (by omega) (by omega) (by subst e; rfl)
  · rw [nn_toNat, show V 88 t = tW_ p t from hS.2.2.2.2.2.2.2.2.1 t ht5]
    exact ok V _ Cor.rf (by omega) (by omega) (by subst e; rfl)
  · rw [nn_toNat, show V 89 t = tL_ p t from hS.lod ht5]
    exact ok V _ Cor.rf (by omega) (by omega) (by subst e; rfl)
  · refine lc_hear_81 hS hB hW hO fun V1 hL1 hF1 => ?_
    show RY d 141 81 _ _ V1 D Q
    refine u_141_81 (u_243_0_81 (c_best_81 hL1 t1 (by omega) fun V2 hF2 => ?_))
    show RY d 243 7 _ _ V2 D _
    refine u_243_7_81 ?_
    show RY d 141 93 _ _ V2 D Q
    exact u_141_93 (ok V2 _ ((FLcor hF1).tr (hF2.cor (by decide))) (by omega) (by omega) (by subst e; rfl))
  · refine lc_hear_81 hS hB hW hO fun V1 hL1 hF1 => ?_
    show RY d 141 105 _ _ V1 D Q
    refine u_141_105 (c_trade hL1 t1 fun V2 hF2 => ?_)
    show RY d 141 117 _ _ V2 D Q
    exact u_141_117 (ok V2 _ ((FLcor hF1).tr (hF2.cor (by decide))) (by omega) (by omega) (by subst e; rfl))
  · rw [aIf_n (by omega)] at h
    exact h V _ Cor.rf CorD.exc
/-! the model -/
theorem ma_room {r w : Int} (hM : MC V p ls) (hB : Bv V) (hd : 30 ≤ d) (h : ∀ V', V' 405 0 = mCd 2 (aRoom p ls r w) → Cor V V' → Q (.inl (some (vi (mVal (aRoom p ls r w))))) V' D) : RY d 14 0 [vr 405, vi r, vi w] [] V D Q := by
  unfold aRoom at h
  obtain ⟨hE, hW, hT, hw⟩ := id hM
  have bad : ∀ z : Int, 0 < z → (∀ V1 : xF, V1 405 0 = z → Cor V V1 → Q (.inl (some (vi 0))) V1 D) → ∀ V1 : xF, V1 = up2 V 405 0 z → RY d 14 31 [vr 405, vi r, vi w] [] V1 D Q := by
    rintro z hz hq V1 hV1
    have t0 : V1 405 0 = z := by rw [hV1]; exact v405.1
    have C1 : Cor V V1 := by rw [hV1]; exact v405.2.2
    exact u_14_31 ⟨fun g => by omega, fun _ => hq V1 t0 C1⟩
  refine u_14_0 ⟨yg132, ?_⟩
  rw [yr132 (by rw [hE]; exact hW), hE, yr124]
  by_cases hr : 0 ≤ r ∧ r < p 3
  · rw [if_pos hr]
    rw [aIf_y hr] at h
    refine ⟨fun _ => ?_, fun g => absurd g (by decide)⟩
    by_cases hw9 : 0 ≤ w ∧ w ≤ 13
    · rw [if_pos hw9]
      rw [aIf_y hw9] at h
      refine ⟨fun _ => ?_, fun g => absurd g (by decide)⟩
      rintro V1 hV1
      have t0 : V1 405 0 = 0 := by rw [hV1]; exact v405.1
      have C1 : Cor V V1 := by rw [hV1]; exact v405.2.2
      clear hV1
      obtain ⟨r, rfl⟩ : ∃ m : Nat, r = (m : Int) := ⟨r.toNat, by omega⟩
      rw [nn_toNat] at h
      have hr5 : r < 5 := by have := hW.1; omega
      have hM1 := hM.c C1
      have hB1 := C1.2.2.2.2.2.2 hB
      have hE1 := hM1.1
      have hW1 : WF (V1 406) := by rw [hE1]; exact hW
      have ok : ∀ (V' : xF) (z : Int), V' 405 0 = V1 405 0 → Cor V1 V' → z = roomF p ls r w → Q (.inl (some (vi z))) V' D := by
        intro V' z h0 hC hz
        rw [hz]
        exact h V' (by rw [h0, t0]; rfl) (C1.tr hC)
      refine u_14_31 ⟨fun _ => ⟨fun h7 => ⟨fun n7 => ⟨fun n8 => ⟨fun n9 => ⟨fun n10 => ⟨fun n11 => ⟨fun n12 => ?_, fun e => ?_⟩, fun e => ?_⟩, fun e => ?_⟩, fun e => ?_⟩, fun e => ?_⟩, fun e => ?_⟩, fun h7 => ⟨yg133 hr5 (by omega), ?_⟩⟩, fun g => by omega⟩
      · have e : w = 13 := by omega
        refine m_share hE1 hW hr.2 ?_
        show RY d 14 132 _ _ V1 D Q
        exact u_14_132 (ok V1 _ rfl Cor.rf (by subst e; rfl))
      · refine m_dear hM1 hB1 hd hr.2 fun V2 hF2 hM2 => ?_
        show RY d 14 124 _ _ V2 D Q
        exact u_14_124 (ok V2 _ hF2.z (hF2.cor (hM2.1.trans hE1.symm)) (by subst e; rfl))
      · refine m_missed hW1 (by rw [hE1]; exact hr.2) fun V2 hF2 => ?_
        rw [hE1]
        show RY d 14 112 _ _ V2 D Q
        exact u_14_112 (ok V2 _ (by rw [hF2.at_ 405 (by decide)]) (hF2.cor (by decide)) (by subst e; rfl))
      · refine m_din hW1 (by rw [hE1]; exact hr.2) fun V2 hF2 => ?_
        rw [hE1]
        show RY d 14 100 _ _ V2 D Q
        exact u_14_100 (ok V2 _ (by rw [hF2.at_ 405 (by decide)]) (hF2.cor (by decide)) (by subst e; rfl))
      · refine m_mute hW1 (by rw [hE1]; exact hr.2) fun V2 hF2 => ?_
        rw [hE1]
        show RY d 14 88 _ _ V2 D Q
        exact u_14_88 (ok V2 _ (by rw [hF2.at_ 405 (by decide)]) (hF2.cor (by decide)) (by subst e; rfl))
      · refine m_mid hW1 (by rw [hE1]; exact hr.2) fun V2 _ hF2 => ?_
        rw [hE1]
        show RY d 14 76 _ _ V2 D Q
        exact u_14_76 (ok V2 _ (by rw [hF2.at_ 405 (by decide)]) (hF2.cor (by decide)) (by subst e; rfl))
      · refine m_holder (by omega) hW1 ?_
        rw [hE1]
        show RY d 14 64 _ _ V1 D Q
        exact u_14_64 (ok V1 _ rfl Cor.rf (by subst e; rfl))
      · have : w = 0 ∨ w = 1 ∨ w = 2 ∨ w = 3 ∨ w = 4 ∨ w = 5 ∨ w = 6 := by omega
        rcases this with e | e | e | e | e | e | e <;> subst e
        · rw [yr133_0 hr5, hE1]; exact ok V1 _ rfl Cor.rf rfl
        · rw [yr133_1 hr5, hE1]; exact ok V1 _ rfl Cor.rf rfl
        · rw [yr133_2 hr5, hE1]; exact ok V1 _ rfl Cor.rf rfl
        · rw [yr133_3 hr5, hE1]; exact ok V1 _ rfl Cor.rf rfl
        · rw [yr133_4 hr5, hE1]; exact ok V1 _ rfl Cor.rf rfl
        · rw [yr133_5 hr5, hE1]; exact ok V1 _ rfl Cor.rf rfl
        · rw [yr133_6 hr5, hE1]; exact ok V1 _ rfl Cor.rf rfl
    · rw [if_neg hw9]
      rw [aIf_n hw9] at h
      exact ⟨fun g => absurd rfl g, fun _ => bad 2 (by decide) (fun V1 t0 C1 => h V1 t0 C1)⟩
  · rw [if_neg hr]
    rw [aIf_n hr] at h
    exact ⟨fun g => absurd rfl g, fun _ => bad 1 (by decide) (fun V1 t0 C1 => h V1 t0 C1)⟩
theorem ma_tenant {t w : Int} (hM : MC V p ls) (hB : Bv V) (hd : 30 ≤ d) (h : ∀ V', V' 405 0 = mCd 2 (aTenant p ls t w) → Cor V V' → Q (.inl (some (vi (mVal (aTenant p ls t w))))) V' D) : RY d 16 0 [vr 405, vi t, vi w] [] V D Q := by
  unfold aTenant at h
  obtain ⟨hE, hW, hT, hw⟩ := id hM
  have all : ∀ (V1 : xF) (z : Int), V1 = up2 V 405 0 z → (z = 0 → (0 ≤ t ∧ t < p 4) ∧ 0 ≤ w ∧ w ≤ 4) → (z ≠ 0 → 0 < z ∧ (∀ V1 : xF, V1 405 0 = z → Cor V V1 → Q (.inl (some (vi 0))) V1 D)) → (((V1 405 0) ≤ 0 → (((3 : Int) ≤ w → ((w ≠ 3 → RY d 145 0 [vr 405, vi t, vr 0, vr 0, vr 0] [] V1 D (yback d 16 70 [vr 405, vi t, vi w] [] Q)) ∧ (w = 3 → RY d 144 0 [vr 405, vi t, vi 0, vr 0, vr 0, vr 0] [] V1 D (yback d 16 62 [vr 405, vi t, vi w] [] Q)))) ∧ (w < 3 → (yg_143 t w V1 D ∧ Q (.inl (some (vi (yr_143 t w V1 D)))) V1 D)))) ∧ ((0 : Int) < (V1 405 0) → Q (.inl (some (vi 0))) V1 D)) := by
    intro V1 z hV1 hy hn
    have t0 : V1 405 0 = z := by rw [hV1]; exact v405.1
    have C1 : Cor V V1 := by rw [hV1]; exact v405.2.2
    clear hV1
    by_cases hz : z = 0
    · obtain ⟨ht, hw9⟩ := hy hz
      rw [aIf_y ht, aIf_y hw9] at h
      obtain ⟨t, rfl⟩ : ∃ m : Nat, t = (m : Int) := ⟨t.toNat, by omega⟩
      rw [nn_toNat] at h
      have ht5 := (hW.ten ht.2).1
      have hM1 := hM.c C1
      have hB1 := C1.2.2.2.2.2.2 hB
      have hE1 := hM1.1
      have ok : ∀ (V' : xF) (z' : Int), V' 405 0 = V1 405 0 → Cor V1 V' → z' = tenF p ls t w → Q (.inl (some (vi z'))) V' D := by
        intro V' z' h0 hC hz'
        rw [hz']
        exact h V' (by rw [h0, t0, hz]; rfl) (C1.tr hC)
      refine ⟨fun _ => ⟨fun h3 => ⟨fun n3 => ?_, fun e => ?_⟩, fun h3 => ⟨yg143 ht5 (by omega), ?_⟩⟩, fun g => by omega⟩
      · have e : w = 4 := by omega
        refine m_trade hM1 hB1 hd ht.2 fun V2 hF2 hM2 => ?_
        show RY d 16 70 _ _ V2 D Q
        exact u_16_70 (ok V2 _ hF2.z hF2.cor (by subst e; rfl))
      · refine m_best hM1 hB1 hd ht.2 fun V2 hF2 hM2 => ?_
        rw [if_pos rfl]
        show RY d 16 62 _ _ V2 D Q
        exact u_16_62 (ok V2 _ hF2.z hF2.cor (by subst e; rfl))
      · have : w = 0 ∨ w = 1 ∨ w = 2 := by omega
        rcases this with e | e | e <;> subst e
        · rw [yr143_0 ht5, hE1]; exact ok V1 _ rfl Cor.rf rfl
        · rw [yr143_1 ht5, hE1]; exact ok V1 _ rfl Cor.rf rfl
        · rw [yr143_2 ht5, hE1]; exact ok V1 _ rfl Cor.rf rfl
    · obtain ⟨h1, h2⟩ := hn hz
      exact ⟨fun g => by omega, fun _ => h2 V1 t0 C1⟩
  refine u_16_0 ⟨yg142, ?_⟩
  rw [yr142 (by rw [hE]; exact hW), hE, yr124]
  by_cases ht : 0 ≤ t ∧ t < p 4
  · rw [if_pos ht]
    refine ⟨fun _ => ?_, fun g => absurd g (by decide)⟩
    by_cases hw9 : 0 ≤ w ∧ w ≤ 4
    · rw [if_pos hw9]
      exact ⟨fun _ V1 hV1 => all V1 0 hV1 (fun _ => ⟨ht, hw9⟩) (fun g => absurd rfl g), fun g => absurd g (by decide)⟩
    · rw [if_neg hw9]
      rw [aIf_y ht, aIf_n hw9] at h
      exact ⟨fun g => absurd rfl g, fun _ V1 hV1 => all V1 2 hV1 (fun g => absurd g (by decide)) (fun _ => ⟨by decide, fun V1 t0 C1 => h V1 t0 C1⟩)⟩
  · rw [if_neg ht]
    rw [aIf_n ht] at h
    exact ⟨fun g => absurd rfl g, fun _ V1 hV1 => all V1 1 hV1 (fun g => absurd g (by decide)) (fun _ => ⟨by decide, fun V1 t0 C1 => h V1 t0 C1⟩)⟩
end ROOM
