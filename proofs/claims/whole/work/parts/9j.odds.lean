/-! ===== ODDS: BOTH CALLS ===== -/
noncomputable def aOdds (p : Rw) (n k : Int) : aRes := aIf ((0 ≤ n ∧ n ≤ 6) ∧ (0 ≤ k ∧ k ≤ 6)) (.inl (odC (p 11) n.toNat k)) (.inr 0)
section ODDS3
variable {d : Nat} {V : xF} {D : yD} {Q : xRes → xF → yD → Prop} {p : Rw}
theorem ca_odds {n k : Int} (hS : St V 81 p) (h : ∀ D', CorD D D' → Q (cRes (aOdds p n k)) V D') : RY d 210 0 [vr 70, vi n, vi k] [] V D Q := by
  obtain ⟨g0, g1, g2, g3, g4, g5, g6, g7, g8, g9, g10, g12, g13, g14, g15, g16, g17, g18, g19, g20, g21, g22⟩ := hS
  unfold aOdds at h
  have no : ¬ ((0 ≤ n ∧ n ≤ 6) ∧ (0 ≤ k ∧ k ≤ 6)) → Q (.inr 0) V (excD D) := fun hn => by
    rw [aIf_n hn] at h
    exact h _ CorD.exc
  refine u_210_0 (c_needNumber (fun n1 n2 => ?_) (fun hn => ⟨rfl, no (fun hc => hn hc.1)⟩))
  show RY d 210 8 _ _ V D Q
  refine u_210_8 (c_needNumber (fun k1 k2 => ?_) (fun hn => ⟨rfl, no (fun hc => hn hc.2)⟩))
  show RY d 210 16 _ _ V D Q
  rw [aIf_y ⟨⟨n1, n2⟩, k1, k2⟩] at h
  obtain ⟨n, rfl⟩ : ∃ m : Nat, n = (m : Int) := ⟨n.toNat, by omega⟩
  rw [nn_toNat] at h
  refine u_210_16 ?_
  rw [g17]
  refine c_oddsOf (by omega) ?_
  show RY d 210 28 _ _ V D Q
  exact u_210_28 (h D CorD.rf)
theorem ma_odds {n k : Int} (hW : WF (V 406)) (h : ∀ V', V' 405 0 = mCd 0 (aOdds (V 406) n k) → Cor V V' → Q (.inl (some (vi (mVal (aOdds (V 406) n k))))) V' D) : RY d 78 0 [vr 405, vi n, vi k, vr 0, vr 0, vr 0, vr 0, vr 0, vr 0, vr 0, vr 0] [] V D Q := by
  have h11 : 0 ≤ V 406 11 ∧ V 406 11 ≤ 100 := hW.2.2.2.2.2.1
  unfold aOdds at h
  have no : ¬ ((0 ≤ n ∧ n ≤ 6) ∧ (0 ≤ k ∧ k ≤ 6)) → ∀ V1, V1 = up2 V 405 0 1 → (((V1 405 0) ≤ 0 → RY d 78 46 [vr 405, vi n, vi k, vl 0, vr 0, vl 1, vr 0, vi 0, vr 0, vr 0, vr 0] [] V1 D Q) ∧ ((0 : Int) < (V1 405 0) → Q (.inl (some (vi 0))) V1 D)) := fun hn V1 hV1 => by
    rw [aIf_n hn] at h
    have t0 : V1 405 0 = 1 := by rw [hV1]; exact v405.1
    exact ⟨fun g => by omega, fun _ => h V1 t0 (by rw [hV1]; exact v405.2.2)⟩
  refine u_78_0 ?_
  rw [yr124, yr124]
  by_cases hn : 0 ≤ n ∧ n ≤ 6
  · rw [if_pos hn]
    refine ⟨fun g => absurd g (by decide), fun _ => ?_⟩
    by_cases hk : 0 ≤ k ∧ k ≤ 6
    · rw [if_pos hk]
      refine ⟨fun _ => ?_, fun g => absurd g (by decide)⟩
      rintro V2 hV2
      have t0 : V2 405 0 = 0 := by rw [hV2]; exact v405.1
      have e6 : V2 406 = V 406 := by rw [hV2]; exact v405.2.1
      refine ⟨fun _ => ?_, fun g => by omega⟩
      rw [aIf_y ⟨hn, hk⟩] at h
      obtain ⟨n, rfl⟩ : ∃ m : Nat, n = (m : Int) := ⟨n.toNat, by omega⟩
      rw [nn_toNat, od_eq h11 hk (by omega)] at h
      refine m_odds (by omega) ?_
      rw [e6]
      exact h V2 t0 (by rw [hV2]; exact v405.2.2)
    · rw [if_neg hk]
      exact ⟨fun g => absurd rfl g, fun _ => no (fun hc => hk hc.2)⟩
  · rw [if_neg hn]
    exact ⟨fun _ => no (fun hc => hn hc.1), fun g => absurd rfl g⟩
end ODDS3
