/-! ===== DAYS, AHEAD, TRIAL, SPAN ===== -/
noncomputable def aDays (p : Rw) (ls : List Ln) (n : Int) : aAct := sIf (1 ≤ n ∧ n ≤ 60) (.inl (popF (daysR p ls 1 n.toNat), daysR p ls 1 n.toNat)) (.inr 0)
noncomputable def aAhead (p : Rw) (ls : List Ln) (t n : Int) : aRes := aIf (0 ≤ t ∧ t < p 4) (aIf (0 ≤ n ∧ n ≤ 60) (.inl (tL_ (daysR p ls 0 n.toNat) t.toNat)) (.inr 0)) (.inr 2)
noncomputable def aTrial (p : Rw) (ls : List Ln) (n b : Int) : aRes := aIf (0 ≤ n ∧ n ≤ 60) (.inl (if b = 0 then letF (daysR p ls 1 n.toNat) else rentsF (daysR p ls 1 n.toNat))) (.inr 0)
def cSd (p : Rw) (ls : List Ln) (n s : Nat) : Int := popF (daysR (rup p 15 (s : Int)) ls 1 n)
def mnC (c : Nat → Int) : Nat → Int
  | 0 => 5
  | k + 1 => if c (k + 1) < mnC c k then c (k + 1) else mnC c k
def mxC (c : Nat → Int) : Nat → Int
  | 0 => 0
  | k + 1 => if mxC c k < c (k + 1) then c (k + 1) else mxC c k
noncomputable def aSpan (p : Rw) (ls : List Ln) (n b : Int) : aRes := aIf (0 ≤ n ∧ n ≤ 60) (.inl (if b = 0 then mnC (cSd p ls n.toNat) 6 else mxC (cSd p ls n.toNat) 6)) (.inr 0)
theorem days_hi {p : Rw} {ls : List Ln} {b : Int} (hW : WF p) {k : Nat} (hk : 331 ≤ k) : ∀ n, daysR p ls b n k = p k
  | 0 => rfl
  | n + 1 => by
    have hWn := days_WF (ls := ls) (b := b) hW n
    have h3 := hWn.1
    have h4 := hWn.2.1
    have ih := days_hi (ls := ls) (b := b) hW hk n
    show dayR (daysR p ls b n) ls b k = p k
    unfold dayR
    show rup _ 12 _ k = p k
    rw [rup_n (by omega), lodsF_n (by omega) _ (by omega)]
    split
    · exact ih
    · rw [drsF_n (by omega) _ (by omega)]; exact ih
theorem popF_b {p : Rw} (hW : WF p) : 0 ≤ popF p ∧ popF p ≤ 5 := pc_b (letF_b hW)
theorem cSd_b {p : Rw} {ls : List Ln} (hW : WF p) {n s : Nat} : 0 ≤ cSd p ls n s ∧ cSd p ls n s ≤ 5 := popF_b (days_WF hW.seed n)
section API
variable {d : Nat} {V : xF} {D : yD} {Q : xRes → xF → yD → Prop} {p : Rw} {ls : List Ln}
theorem ca_days {n : Int} (hP : PNx V D) (hS : St V 81 p) (hB : V 2 = xback5) (hW : WF p) (hO : LO V D (D.2.1 81) ls) (h : ∀ V1 D1, EndC (aDays p ls n) V D V1 D1 → Q (cRes (aR (aDays p ls n))) V1 D1) : RY d 156 0 [vr 70, vi n] [] V D Q := by
  unfold aDays at h
  refine u_156_0 (c_needNumber (fun n1 n2 => ?_) (fun hn => ⟨rfl, ?_⟩))
  · rw [sIf_y ⟨n1, n2⟩] at h
    obtain ⟨n, rfl⟩ : ∃ m : Nat, n = (m : Int) := ⟨n.toNat, by omega⟩
    rw [nn_toNat] at h
    refine u_156_8 (c_act hP fun V' nx a hnx ha h7 h8 hR => u_156_12 ?_)
    have hS' := hR.st hnx hS
    have hO' : LO V' (remD D nx) ((remD D nx).2.1 81) ls := by
      have e : (remD D nx).2.1 81 = D.2.1 81 := by
        show up1 D.2.1 (115 + 11 * nx) (D.2.1 81) 81 = D.2.1 81
        unfold up1
        rw [if_neg (by omega)]
      rw [e]
      exact (hO.cor fun a ha => hR.at_ (by omega) (by omega) hnx).lw rfl
    refine c_days_81 hS' (by rw [hR.at_ (by omega) (by omega) hnx]; exact hB) hW hO' (by omega) fun V1 hF hS1 => ?_
    show RY d 156 25 _ _ V1 _ Q
    have hWn := days_WF (ls := ls) (b := 1) hW n
    refine u_156_25 (c_letRooms_81 hS1 hWn ?_)
    show RY d 156 32 _ _ V1 _ Q
    refine u_156_32 ?_
    rw [yr258 (letF_b hWn)]
    exact h V1 _ (ActC.of hnx ha h7 h8 hR hF (by decide) hS1 CorD.rf)
  · rw [sIf_n hn] at h
    exact h V _ ⟨Cor.rf, CorD.exc⟩
/-- scratch, of now -/
theorem c_scr (hS : St V 81 p) (hO : LO V D (D.2.1 81) ls) (h : ∀ V' D', Cor V V' → V' 2 = V 2 → CorD D D' → D'.2.2.2.2 = D.2.2.2.2 → St V' 92 p → St V' 81 p → LO V' D' (D'.2.1 92) ls → LO V' D' (D'.2.1 81) ls → Q (.inl none) V' D') : RY d 224 0 [vr 92, vr 81] [] V D Q := by
  refine c_copy StA_92 StA_81 (by omega) hO.1 (fun V1 hC => ?_)
  have hO1 : LO V1 (D.1, up1 D.2.1 92 (D.2.1 81), D.2.2) (D.2.1 81) ls := (hO.cor fun a ha => hC.2 a (by omega)).lw rfl
  refine h V1 _ hC.cor (hC.2 2 (by omega)) ⟨fun a ha => ?_, rfl, rfl, by dsimp only; omega, by dsimp only; omega⟩ rfl (hC.st hS) (hS.keep fun k hk => hC.2 _ (by omega)) ?_ ?_
  · show up1 D.2.1 92 (D.2.1 81) a = D.2.1 a
    unfold up1
    rw [if_neg ha]
  · show LO V1 _ (up1 D.2.1 92 (D.2.1 81) 92) ls
    unfold up1
    rw [if_pos rfl]
    exact hO1
  · show LO V1 _ (up1 D.2.1 92 (D.2.1 81) 81) ls
    unfold up1
    rw [if_neg (by decide)]
    exact hO1
theorem ca_ahead {t n : Int} (hS : St V 81 p) (hB : V 2 = xback5) (hW : WF p) (hO : LO V D (D.2.1 81) ls) (h : ∀ V' D', Cor V V' → CorD D D' → Q (cRes (aAhead p ls t n)) V' D') : RY d 217 0 [vr 70, vi t, vi n] [] V D Q := by
  unfold aAhead at h
  refine u_217_0 (c_needTenant hS (fun t0 t1 => ?_) (fun hn => ⟨rfl, ?_⟩))
  · rw [aIf_y ⟨t0, t1⟩] at h
    refine u_217_5 (c_needNumber (fun n1 n2 => ?_) (fun hn => ⟨rfl, ?_⟩))
    · rw [aIf_y ⟨n1, n2⟩] at h
      obtain ⟨n, rfl⟩ : ∃ m : Nat, n = (m : Int) := ⟨n.toNat, by omega⟩
      obtain ⟨t, rfl⟩ : ∃ m : Nat, t = (m : Int) := ⟨t.toNat, by omega⟩
      rw [nn_toNat, nn_toNat] at h
      have ht5 := (hW.ten t1).1
      refine u_217_13 (c_scr hS hO fun V1 D1 hC hV2 hD _ h92 h81 hO92 hO81 => ?_)
      show RY d 217 24 _ _ V1 D1 Q
      refine u_217_24 (c_days_92 h92 (by rw [hV2]; exact hB) hW hO92 (by omega) fun V2 hF hS2 => ?_)
      show RY d 217 37 _ _ V2 D1 Q
      refine u_217_37 ⟨by omega, ?_⟩
      rw [nn_toNat, show V2 100 t = tL_ (daysR p ls 0 n) t from hS2.lod ht5]
      exact h V2 D1 (hC.tr (hF.cor (by decide))) hD
    · rw [aIf_n hn] at h
      exact h V _ Cor.rf CorD.exc
  · rw [aIf_n hn] at h
    exact h V _ Cor.rf CorD.exc
theorem ca_trial {n b : Int} (hS : St V 81 p) (hB : V 2 = xback5) (hW : WF p) (hO : LO V D (D.2.1 81) ls) (h : ∀ V' D', Cor V V' → CorD D D' → Q (cRes (aTrial p ls n b)) V' D') : RY d 218 0 [vr 70, vi n, vi b] [] V D Q := by
  unfold aTrial at h
  refine u_218_0 (c_needNumber (fun n1 n2 => ?_) (fun hn => ⟨rfl, ?_⟩))
  · rw [aIf_y ⟨n1, n2⟩] at h
    obtain ⟨n, rfl⟩ : ∃ m : Nat, n = (m : Int) := ⟨n.toNat, by omega⟩
    rw [nn_toNat] at h
    have hWn := days_WF (ls := ls) (b := 1) hW n
    refine u_218_8 (c_scr hS hO fun V1 D1 hC hV2 hD _ h92 h81 hO92 hO81 => ?_)
    show RY d 218 19 _ _ V1 D1 Q
    refine u_218_19 (c_days_92 h92 (by rw [hV2]; exact hB) hW hO92 (by omega) fun V2 hF hS2 => ?_)
    show RY d 218 32 _ _ V2 D1 Q
    have hq := h V2 D1 (hC.tr (hF.cor (by decide))) hD
    refine u_218_32 ⟨fun hb => c_letRooms_92 hS2 hWn ?_, fun hb => c_letRents_92 hS2 hWn ?_⟩
    · show RY d 218 53 _ _ V2 D1 Q
      rw [if_pos hb] at hq
      exact u_218_53 hq
    · show RY d 218 43 _ _ V2 D1 Q
      rw [if_neg hb] at hq
      exact u_218_43 hq
  · rw [aIf_n hn] at h
    exact h V _ Cor.rf CorD.exc
theorem ca_span {n b : Int} (hS : St V 81 p) (hB : V 2 = xback5) (hW : WF p) (hO : LO V D (D.2.1 81) ls) (h : ∀ V' D', Cor V V' → CorD D D' → Q (cRes (aSpan p ls n b)) V' D') : RY d 220 0 [vr 70, vi n, vi b, vr 0, vr 0, vr 0, vr 0] [] V D Q := by
  unfold aSpan at h
  refine u_220_0 (c_needNumber (fun n1 n2 => ?_) (fun hn => ⟨rfl, ?_⟩))
  · rw [aIf_y ⟨n1, n2⟩] at h
    obtain ⟨n, rfl⟩ : ∃ m : Nat, n = (m : Int) := ⟨n.toNat, by omega⟩
    rw [nn_toNat] at h
    show RY d 220 8 _ _ V D Q
    refine u_220_8 ?_
    have go : ∀ (m k : Nat) (V1 : xF) (D1 : yD) (v6 : xV), m + k = 6 → Cor V V1 → V1 2 = V 2 → CorD D D1 → D1.2.2.2.2 = D.2.2.2.2 → St V1 81 p → LO V1 D1 (D1.2.1 81) ls → RY d 220 16 [vr 70, vi (n : Int), vi b, vi (mnC (cSd p ls n) k), vi (mxC (cSd p ls n) k), vi ((k : Int) + 1), v6] [] V1 D1 Q := by
      intro m
      induction m with
      | zero =>
        intro k V1 D1 v6 hk hC hV2 hD hDD h81 hO1
        have hk : k = 6 := by omega
        subst hk
        have hq := h V1 D1 hC hD
        refine u_220_16 ⟨fun _ => ⟨fun hb => ?_, fun hb => ?_⟩, fun hle => absurd hle (by decide)⟩
        · rw [if_pos hb] at hq; exact hq
        · rw [if_neg hb] at hq; exact hq
      | succ m ih =>
        intro k V1 D1 v6 hk hC hV2 hD hDD h81 hO1
        refine u_220_16 ⟨fun hlt => by omega, fun _ => ?_⟩
        refine c_scr h81 hO1 fun V2 D2 hC2 hV22 hD2 hDD2 h92 h812 hO92 hO81 => ?_
        show RY d 220 34 _ _ V2 D2 Q
        refine u_220_34 ?_
        rintro V3 hV3
        have hS3 : St V3 92 (rup p 15 ((k + 1 : Nat) : Int)) := by
          rw [hV3, show (k : Int) + 1 = ((k + 1 : Nat) : Int) by omega]
          exact st_seed h92
        have hF3 : Fr [92] V2 V3 := by rw [hV3]; exact Fr.up (by decide)
        have hO3 : LO V3 D2 (D2.2.1 92) ls := hO92.cor fun a ha => hF3 a (by simp; omega)
        refine c_days_92 hS3 (by rw [hF3.at_ 2 (by decide), hV22, hV2]; exact hB) hW.seed hO3 (by omega) fun V4 hF4 hS4 => ?_
        show RY d 220 56 _ _ V4 D2 Q
        have hWn := days_WF (ls := ls) (b := 1) (hW.seed (z := ((k + 1 : Nat) : Int))) n
        refine u_220_56 (c_letRooms_92 hS4 hWn ?_)
        show RY d 220 63 _ _ V4 D2 Q
        refine u_220_63 ?_
        rw [yr258 (letF_b hWn), show pcT (letF (daysR (rup p 15 ((k + 1 : Nat) : Int)) ls 1 n)) 31 = cSd p ls n (k + 1) from rfl]
        have hF24 : Fr (FL ++ [92, 95, 100]) V2 V4 := (hF3.sub (by decide)).tr hF4
        have := ih (k + 1) V4 D2 (vi (cSd p ls n (k + 1))) (by omega) ((hC.tr hC2).tr (hF24.cor (by decide))) (by rw [hF24.at_ 2 (by decide), hV22, hV2]) ⟨fun a ha => (hD2.1 a ha).trans (hD.1 a ha), hD2.2.1.trans hD.2.1, hD2.2.2.1.trans hD.2.2.1, by rw [hDD2, hDD]; omega, by rw [hDD2, hDD]; omega⟩ (hDD2.trans hDD) (h812.keep fun j hj => hF24 _ (by simp; omega)) (hO81.cor fun a ha => hF24 a (by simp; omega))
        rw [wr_id (x := (k : Int) + 1 + 1) (by omega) (by omega), show (k : Int) + 1 + 1 = ((k + 1 : Nat) : Int) + 1 by omega]
        exact this
    exact go 6 0 V D _ (by omega) Cor.rf rfl CorD.rf rfl hS hO
  · rw [aIf_n hn] at h
    exact h V _ Cor.rf CorD.exc
end API
