/-! ===== WHICH ROOMS FIT AT THEIR MIDDLES ===== -/
def knownF (p : Rw) (b : Nat → Int) (m : Nat) : Int := bitsT (fun r => fitB b (hearM p r) m) (p 3).toNat
noncomputable def aKnown (p : Rw) (n : Int) (b : Nat → Int) : aRes := aIf (okRows b n) (.inl (knownF p b (n / 2).toNat)) (.inr 0)
section KNOWN
variable {d : Nat} {V : xF} {D : yD} {Q : xRes → xF → yD → Prop} {p : Rw} {b : Nat → Int}
theorem ca_known {n : Int} (hT : Tp V b n) (hS : St V 81 p) (hB : V 2 = xback5) (hW : WF p)
    (h : ∀ V' D', Cor (up2 V 76 1 0) V' → CorD D D' → Q (cRes (aKnown p n b)) V' D') : RY d 186 0 [vr 70, vr 0, vr 0] [] V D Q := by
  obtain ⟨t1, t2, t3, t4, t5, t6⟩ := hT
  have S1 := cor_tape hS
  have h3 := hW.1
  have hCD : ∀ (L : xF), CorD D (L, D.2) := fun L => ⟨fun _ _ => rfl, rfl, rfl, by dsimp only; omega, by dsimp only; omega⟩
  have hCE : ∀ (L : xF), CorD D (excD (L, D.2)) := fun L => ⟨fun _ _ => rfl, rfl, rfl, Nat.le_refl _, Nat.le_refl _⟩
  unfold aKnown at h
  refine u_186_0 (c_takeRows t1 t3 t4 t6 (fun hok L hL => ?_) (fun hno L => ?_))
  · rw [aIf_y hok] at h
    show RY d 186 8 _ _ _ _ Q
    refine u_186_8 (u_268_0 ⟨fun _ => ?_, fun h5 => absurd h5 (by decide)⟩)
    show RY d 186 11 _ _ _ _ Q
    refine u_186_11 ?_
    have go : ∀ (m k : Nat) (V1 : xF), (m : Int) + k = p 3 → Fr [253, 254, 255] (up2 V 76 1 0) V1 → RY d 186 15 [vr 70, vi (bitsT (fun r => fitB b (hearM p r) (n / 2).toNat) k), vi (k : Int)] [] V1 (L, D.2) Q := by
      intro m
      induction m with
      | zero =>
        intro k V1 hk hF
        refine u_186_15 ⟨fun _ => ?_, fun hlt => ?_⟩
        · have := h V1 (L, D.2) (hF.cor (by decide)) (hCD L)
          unfold knownF at this
          rw [show (p 3).toNat = k by omega] at this
          exact this
        · rw [(S1.keep (V' := V1) fun j hj => hF _ (by simp; omega)).rooms] at hlt; omega
      | succ m ih =>
        intro k V1 hk hF
        have S2 := S1.keep (V' := V1) fun j hj => hF _ (by simp; omega)
        have hr : (k : Int) < p 3 := by omega
        have hk5 : k < 5 := by omega
        have e1 : wr ((k : Int) + 1) = ((k + 1 : Nat) : Int) := by rw [wr_id (by omega) (by omega)]; omega
        refine u_186_15 ⟨fun hle => ?_, fun _ => ⟨yg211_81 hk5, ?_⟩⟩
        · rw [S2.rooms] at hle; clear e1; omega
        · refine c_mid_81 S2 (by rw [hF.at_ 2 (by decide), up2_na (by decide)]; exact hB) hW hr (Or.inl rfl) fun V2 h2 hF2 => ?_
          show RY d 186 50 _ _ V2 _ Q
          refine u_186_50 (c_rowsFit (m := (n / 2).toNat) (Or.inl rfl) h2 (fun t ht => by rw [hearM_hi hW hr ht]; exact Int.le_refl _) hL (fun j hj => (hok.2.2 j (by clear e1; omega)).1) ?_)
          show RY d 186 61 _ _ V2 _ Q
          have := ih (k + 1) V2 (by clear e1; omega) (hF.tr (hF2.sub (by decide)))
          rw [show bitsT (fun r => fitB b (hearM p r) (n / 2).toNat) (k + 1) = if fitB b (hearM p k) (n / 2).toNat = true then xor_ (bitsT (fun r => fitB b (hearM p r) (n / 2).toNat) k) (xshl 1 (k : Int)) else bitsT (fun r => fitB b (hearM p r) (n / 2).toNat) k from rfl] at this
          refine u_186_61 ⟨fun hz => ?_, fun hz => ?_⟩
          · rw [if_neg (fun g => by rw [if_pos g] at hz; exact absurd hz (by decide))] at this
            rw [e1]; exact this
          · rw [if_pos (Classical.byContradiction fun g => hz (if_neg g))] at this
            rw [e1]; exact this
    exact go (p 3).toNat 0 _ (by omega) Fr.rf
  · rw [aIf_n hno] at h
    show RY d 186 8 _ _ _ _ Q
    exact u_186_8 (u_268_0 ⟨fun hn => absurd rfl hn, fun _ => ⟨rfl, h _ _ Cor.rf (hCE L)⟩⟩)
theorem ma_known {n : Int} (hT : TpM V b n) (hW : WF (V 406)) (h : ∀ V', V' 405 0 = mCd 0 (aKnown (V 406) n b) → Cor (up2 V 405 8 0) V' → Q (.inl (some (vi (mVal (aKnown (V 406) n b))))) V' D) : RY d 54 0 [vr 405, vr 0, vr 0, vr 0, vr 0] [] V D Q := by
  obtain ⟨t2, t3, t5, t6⟩ := hT
  have h3 := hW.1
  unfold aKnown at h
  refine u_54_0 (u_181_0 ?_)
  rintro V1 hV1
  have n1 : ∀ a, a ≠ 405 → V1 a = V a := fun a ha => by rw [hV1, up2_na ha]
  have C1 : Cor (up2 V 405 8 0) V1 := by rw [hV1]; exact Cor.rf
  have e6 : V1 406 = V 406 := n1 406 (by decide)
  rw [t5]
  refine ⟨fun _ => ?_, fun g => absurd g (by decide)⟩
  refine m_areRows (b := b) (n := n) (fun k hk => by rw [n1 410 (by decide)]; exact t2 k hk) t3 t6 (fun hok => ?_) (fun hno => ?_)
  · rw [aIf_y hok] at h
    show RY d 181 24 _ _ V1 D _
    refine u_181_24 ⟨fun _ => ?_, fun g => absurd g (by decide)⟩
    rintro V2 hV2
    have C2 : Cor V1 V2 := by rw [hV2]; exact v405.2.2
    have z2 : V2 405 0 = 0 := by rw [hV2]; exact v405.1
    clear hV2
    show RY d 54 5 _ _ V2 D Q
    refine u_54_5 ⟨fun _ => ?_, fun g => by omega⟩
    rintro V3 hV3
    have C3 : Cor V2 V3 := by rw [hV3]; exact v405.2.2
    have z3 : V3 405 0 = 0 := by rw [hV3]; exact v405.1
    clear hV3
    refine ⟨fun _ => ?_, fun g => by omega⟩
    have E3 : V3 406 = V 406 := by rw [C3.at_ 406 rfl, C2.at_ 406 rfl, e6]
    have T3 : ∀ k, k < 400 → V3 410 k = b k := fun k hk => by rw [C3.at_ 410 rfl, C2.at_ 410 rfl, n1 410 (by decide)]; exact t2 k hk
    have en : n = ((2 * (n / 2).toNat : Nat) : Int) := by have := hok.2.1; omega
    have hm : (n / 2).toNat ≤ 20 := by have := hok.1; omega
    have go : ∀ (m k : Nat) (V4 : xF) (v4 : xV), (m : Int) + k = V 406 3 → Fr [412, 413] V3 V4 → RY d 54 35 [vr 405, vi n, vi (bitsT (fun r => fitB b (hearM (V 406) r) (n / 2).toNat) k), vi (k : Int), v4] [] V4 D Q := by
      intro m
      induction m with
      | zero =>
        intro k V4 v4 hk hF
        have E4 : V4 406 = V 406 := by rw [hF.at_ 406 (by decide), E3]
        refine u_54_35 ⟨fun _ => ?_, fun hlt => ?_⟩
        · have := h V4 (by rw [hF.at_ 405 (by decide), z3]; rfl) (((C1.tr C2).tr C3).tr (hF.cor (by decide)))
          have this : Q (.inl (some (vi (knownF (V 406) b (n / 2).toNat)))) V4 D := this
          unfold knownF at this
          rw [show (V 406 3).toNat = k by omega] at this
          exact this
        · rw [E4] at hlt; omega
      | succ m ih =>
        intro k V4 v4 hk hF
        have E4 : V4 406 = V 406 := by rw [hF.at_ 406 (by decide), E3]
        have hr : (k : Int) < V 406 3 := by omega
        have e1 : wr ((k : Int) + 1) = ((k + 1 : Nat) : Int) := by rw [wr_id (by omega) (by omega)]; omega
        refine u_54_35 ⟨fun hle => ?_, fun _ => ?_⟩
        · rw [E4] at hle; clear e1; omega
        · refine m_mid (by rw [E4]; exact hW) (by rw [E4]; exact hr) fun V5 h5 hF5 => ?_
          rw [E4] at h5
          show RY d 54 50 _ _ V5 D Q
          refine u_54_50 ?_
          have F5 := hF.tr hF5
          have told := m_isAsTold (V := V5) (D := D) (d := d) (b := b) (f := hearM (V 406) k) (m := (n / 2).toNat) (Q := yback d 54 58 [vr 405, vi n, vi (bitsT (fun r => fitB b (hearM (V 406) r) (n / 2).toNat) k), vi (k : Int), vi (cntT (hearM (V 406) k) 64)] [vi (bitsT (fun r => fitB b (hearM (V 406) r) (n / 2).toNat) k)] Q) hm (fun j hj => by rw [F5.at_ 410 (by decide)]; exact T3 j hj) (fun j hj => (hok.2.2 j (by clear e1; omega)).1) h5
          rw [← en] at told
          rw [E4]
          refine told ?_
          show RY d 54 58 _ _ V5 D Q
          have := fun v => ih (k + 1) V5 v (by clear e1; omega) F5
          rw [show bitsT (fun r => fitB b (hearM (V 406) r) (n / 2).toNat) (k + 1) = if fitB b (hearM (V 406) k) (n / 2).toNat = true then xor_ (bitsT (fun r => fitB b (hearM (V 406) r) (n / 2).toNat) k) (xshl 1 (k : Int)) else bitsT (fun r => fitB b (hearM (V 406) r) (n / 2).toNat) k from rfl] at this
          refine u_54_58 ⟨fun hz => ?_, fun hz => ?_⟩
          · rw [if_neg (fun g => by rw [if_pos g] at hz; exact absurd hz (by decide))] at this
            rw [e1, or_0 (by clear e1; omega)]; exact this _
          · rw [if_pos (Classical.byContradiction fun g => hz (if_neg g))] at this
            rw [e1]; exact this _
    exact go (V 406 3).toNat 0 V3 _ (by omega) Fr.rf
  · rw [aIf_n hno] at h
    show RY d 181 24 _ _ V1 D _
    refine u_181_24 ⟨fun g => absurd rfl g, fun _ => ?_⟩
    rintro V2 hV2
    have C2 : Cor V1 V2 := by rw [hV2]; exact v405.2.2
    have z2 : V2 405 0 = 2 := by rw [hV2]; exact v405.1
    clear hV2
    show RY d 54 5 _ _ V2 D Q
    refine u_54_5 ⟨fun g => by omega, fun _ => ?_⟩
    rintro V3 hV3
    have C3 : Cor V2 V3 := by rw [hV3]; exact v405.2.2
    have z3 : V3 405 0 = 1 := by rw [hV3]; exact v405.1
    exact ⟨fun g => by omega, fun _ => h V3 z3 ((C1.tr C2).tr C3)⟩
end KNOWN
