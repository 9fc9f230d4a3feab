/-! ===== DAYS: THE MODEL; RENTS AND ROOMS THAT ARE LET ===== -/
theorem yR_lw {lw lw' : Nat → Nat} {kd : Nat → Nat × Nat} {a : Nat} : yR lw kd a 1 = yR lw' kd a 1 ∧ yR lw kd a 2 = yR lw' kd a 2 ∧ yR lw kd a 3 = yR lw' kd a 3 ∧ yR lw kd a 4 = yR lw' kd a 4 := ⟨rfl, rfl, rfl, rfl⟩
theorem LO.lw {V : xF} {D D' : yD} {L : Nat} {ls : List Ln} (h : LO V D L ls) (hk : D'.2.2.1 = D.2.2.1) : LO V D' L ls := by
  obtain ⟨h1, h2, h3, h4, h5, h⟩ := h
  obtain ⟨e1, e2, e3, e4⟩ := yR_lw (lw := D'.2.1) (lw' := D.2.1) (kd := D.2.2.1) (a := L)
  refine ⟨h1, by rw [hk]; exact h2, h3, h4, h5, ?_⟩
  unfold LRows AR at *
  rw [hk, e1, e2, e3, e4]
  exact h
/-- the rents of rooms that are let; how many -/
def rnS (b : Nat → Bool) (R : Nat → Int) : Nat → Int
  | 0 => 0
  | n + 1 => rnS b R n + (if b n = true then R n else 0)
def rentsF (p : Rw) : Int := rnS (tb (letF p)) (rR p) (p 3).toNat
def pcT (x : Int) : Nat → Int
  | 0 => 0
  | n + 1 => pcT x n + xand (xshr x (n : Int)) 1
def popF (p : Rw) : Int := pcT (letF p) 31
section GOES
variable {d : Nat} {V : xF} {D : yD} {Q : xRes → xF → yD → Prop} {p : Rw} {ls : List Ln}
theorem pc_b {x : Int} (hx : 0 ≤ x ∧ x < 32) : 0 ≤ pcT x 31 ∧ pcT x 31 ≤ 5 := by
  have hall : ∀ x : Fin 32, 0 ≤ pcT (x.1 : Int) 31 ∧ pcT (x.1 : Int) 31 ≤ 5 := by decide +kernel
  have := hall ⟨x.toNat, by omega⟩
  dsimp only at this
  rwa [show ((x.toNat : Nat) : Int) = x by omega] at this
theorem yr258 {x : Int} (hx : 0 ≤ x ∧ x < 32) : yr_258 x V D = pcT x 31 := by
  have e : yr_258 x V D = yr_258 x (fun _ _ => 0) (⟨fun _ _ => 0, fun _ => 0, fun _ => (0, 0), 0, 0, 0⟩ : yD) := rfl
  rw [e]
  have hall : ∀ x : Fin 32, yr_258 (x.1 : Int) (fun _ _ => 0) (⟨fun _ _ => 0, fun _ => 0, fun _ => (0, 0), 0, 0, 0⟩ : yD) = pcT (x.1 : Int) 31 := by decide +kernel
  have := hall ⟨x.toNat, by omega⟩
  dsimp only at this
  rwa [show ((x.toNat : Nat) : Int) = x by omega] at this
theorem letF_b (hW : WF p) : 0 ≤ letF p ∧ letF p < 32 := bitsT_lt (by have := hW.1; omega)
theorem pc_step {x : Int} (hx : 0 ≤ x ∧ x < 32) : ∀ n, n ≤ 31 → 0 ≤ pcT x n ∧ pcT x n ≤ 31 := by
  have hall : ∀ x : Fin 32, ∀ n : Fin 32, 0 ≤ pcT (x.1 : Int) n.1 ∧ pcT (x.1 : Int) n.1 ≤ 31 := by decide +kernel
  intro n hn
  have := hall ⟨x.toNat, by omega⟩ ⟨n, by omega⟩
  dsimp only at this
  rwa [show ((x.toNat : Nat) : Int) = x by omega] at this
theorem m_bits {x : Int} (hx : 0 ≤ x ∧ x < 32) (h : Q (.inl (some (vi (pcT x 31)))) V D) : RY d 160 0 [vi x, vr 0, vr 0] [] V D Q := by
  refine u_160_0 ?_
  have go : ∀ (n k : Nat), n + k = 31 → RY d 160 4 [vi x, vi (pcT x k), vi (k : Int)] [] V D Q := by
    intro n
    induction n with
    | zero =>
      intro k hk
      have hk : k = 31 := by omega
      subst hk
      exact u_160_4 ⟨fun _ => h, fun hlt => absurd hlt (by decide)⟩
    | succ n ih =>
      intro k hk
      have b1 := pc_step hx (k + 1) (by omega)
      have e1 : wr ((k : Int) + 1) = ((k + 1 : Nat) : Int) := by rw [wr_id (by omega) (by omega)]; omega
      have e2 : wr (pcT x k + xand (xshr x (k : Int)) 1) = pcT x (k + 1) := wr_id (by have : pcT x (k + 1) = pcT x k + xand (xshr x (k : Int)) 1 := rfl; clear e1; omega) (by have : pcT x (k + 1) = pcT x k + xand (xshr x (k : Int)) 1 := rfl; clear e1; omega)
      refine u_160_4 ⟨fun hle => ?_, fun _ => ?_⟩
      · clear e1 e2; omega
      · rw [e1, e2]
        clear e1 e2
        exact ih (k + 1) (by omega)
  exact go 31 0 (by omega)
theorem rnS_b (hW : WF p) : ∀ n, n ≤ (p 3).toNat → 0 ≤ rnS (tb (letF p)) (rR p) n ∧ rnS (tb (letF p)) (rR p) n ≤ 99 * (n : Int)
  | 0, _ => ⟨Int.le_refl _, Int.le_refl _⟩
  | n + 1, h => by
    have ih := rnS_b hW n (by omega)
    have h3 := hW.1
    have hr := hW.rent (r := n) (by omega)
    unfold rnS
    split <;> omega
theorem c_letRents_81 (hS : St V 81 p) (hW : WF p) (h : Q (.inl (some (vi (rentsF p)))) V D) : RY d 290 0 [vr 81, vr 0, vr 0, vr 0] [] V D Q := by
  have h3 := hW.1
  have hl := letF_b hW
  refine u_290_0_81 (c_letRooms_81 hS hW ?_)
  show RY d 290 4 _ _ V D Q
  refine u_290_4_81 ?_
  have go : ∀ (n k : Nat), (n : Int) + k = p 3 → RY d 290 9 [vr 81, vi (letF p), vi (rnS (tb (letF p)) (rR p) k), vi (k : Int)] [] V D Q := by
    intro n
    induction n with
    | zero =>
      intro k hk
      refine u_290_9_81 ⟨fun _ => ?_, fun hlt => ?_⟩
      · rw [show k = (p 3).toNat by omega]; exact h
      · rw [hS.rooms] at hlt; omega
    | succ n ih =>
      intro k hk
      have hk5 : k < 5 := by omega
      have b1 := rnS_b hW k (by omega)
      have hr := hW.rent (r := k) (by omega)
      have e1 : wr ((k : Int) + 1) = ((k + 1 : Nat) : Int) := by rw [wr_id (by omega) (by omega)]; omega
      refine u_290_9_81 ⟨fun hle => ?_, fun _ => ⟨by clear e1; omega, ?_⟩⟩
      · rw [hS.rooms] at hle; clear e1; omega
      · rw [nn_toNat, show V 85 k = rR p k from hS.2.2.2.2.1 k hk5, bit_tb hl hk5, e1]
        clear e1
        have := ih (k + 1) (by omega)
        rw [show rnS (tb (letF p)) (rR p) (k + 1) = rnS (tb (letF p)) (rR p) k + (if tb (letF p) k = true then rR p k else 0) from rfl] at this
        by_cases hb : tb (letF p) k = true
        · rw [if_pos hb] at this ⊢
          rw [Int.one_mul, wr_id (x := rR p k) (by omega) (by omega), wr_id (by omega) (by omega)]
          exact this
        · rw [if_neg hb] at this ⊢
          rw [Int.zero_mul, wr_id (x := 0) (by omega) (by omega), wr_id (by omega) (by omega)]
          exact this
  exact go (p 3).toNat 0 (by omega)
theorem c_letRents_92 (hS : St V 92 p) (hW : WF p) (h : Q (.inl (some (vi (rentsF p)))) V D) : RY d 290 0 [vr 92, vr 0, vr 0, vr 0] [] V D Q := by
  have h3 := hW.1
  have hl := letF_b hW
  refine u_290_0_92 (c_letRooms_92 hS hW ?_)
  show RY d 290 4 _ _ V D Q
  refine u_290_4_92 ?_
  have go : ∀ (n k : Nat), (n : Int) + k = p 3 → RY d 290 9 [vr 92, vi (letF p), vi (rnS (tb (letF p)) (rR p) k), vi (k : Int)] [] V D Q := by
    intro n
    induction n with
    | zero =>
      intro k hk
      refine u_290_9_92 ⟨fun _ => ?_, fun hlt => ?_⟩
      · rw [show k = (p 3).toNat by omega]; exact h
      · rw [hS.rooms] at hlt; omega
    | succ n ih =>
      intro k hk
      have hk5 : k < 5 := by omega
      have b1 := rnS_b hW k (by omega)
      have hr := hW.rent (r := k) (by omega)
      have e1 : wr ((k : Int) + 1) = ((k + 1 : Nat) : Int) := by rw [wr_id (by omega) (by omega)]; omega
      refine u_290_9_92 ⟨fun hle => ?_, fun _ => ⟨by clear e1; omega, ?_⟩⟩
      · rw [hS.rooms] at hle; clear e1; omega
      · rw [nn_toNat, show V 96 k = rR p k from hS.2.2.2.2.1 k hk5, bit_tb hl hk5, e1]
        clear e1
        have := ih (k + 1) (by omega)
        rw [show rnS (tb (letF p)) (rR p) (k + 1) = rnS (tb (letF p)) (rR p) k + (if tb (letF p) k = true then rR p k else 0) from rfl] at this
        by_cases hb : tb (letF p) k = true
        · rw [if_pos hb] at this ⊢
          rw [Int.one_mul, wr_id (x := rR p k) (by omega) (by omega), wr_id (by omega) (by omega)]
          exact this
        · rw [if_neg hb] at this ⊢
          rw [Int.zero_mul, wr_id (x := 0) (by omega) (by omega), wr_id (by omega) (by omega)]
          exact this
  exact go (p 3).toNat 0 (by omega)
theorem m_rentsOf (hE : V 406 = p) (hW : WF p) (h : Q (.inl (some (vi (rentsF p)))) V D) : RY d 219 0 [vr 405, vi (letF p), vr 0, vr 0] [] V D Q := by
  have h3 := hW.1
  have hl := letF_b hW
  refine u_219_0 ?_
  have go : ∀ (n k : Nat), (n : Int) + k = p 3 → RY d 219 4 [vr 405, vi (letF p), vi (rnS (tb (letF p)) (rR p) k), vi (k : Int)] [] V D Q := by
    intro n
    induction n with
    | zero =>
      intro k hk
      refine u_219_4 ⟨fun _ => ?_, fun hlt => ?_⟩
      · rw [show k = (p 3).toNat by omega]; exact h
      · rw [hE] at hlt; omega
    | succ n ih =>
      intro k hk
      have hk5 : k < 5 := by omega
      have b1 := rnS_b hW k (by omega)
      have hr := hW.rent (r := k) (by omega)
      have e1 : wr ((k : Int) + 1) = ((k + 1 : Nat) : Int) := by rw [wr_id (by omega) (by omega)]; omega
      have e8 : yr_198 (letF p) (k : Int) V D = if tb (letF p) k = true then 1 else 0 := by
        unfold yr_198
        rw [bit_tb hl hk5]
        by_cases hb : tb (letF p) k = true
        · rw [if_pos hb, if_pos rfl]
        · rw [if_neg hb, if_neg (by decide)]
      refine u_219_4 ⟨fun hle => ?_, fun _ => ?_⟩
      · rw [hE] at hle; clear e1; omega
      · rw [e8, e1]
        clear e1 e8
        have := ih (k + 1) (by omega)
        rw [show rnS (tb (letF p)) (rR p) (k + 1) = rnS (tb (letF p)) (rR p) k + (if tb (letF p) k = true then rR p k else 0) from rfl] at this
        by_cases hb : tb (letF p) k = true
        · rw [if_pos hb] at this ⊢
          refine ⟨fun h => absurd h (by decide), fun _ => ⟨yg133 hk5 (by omega), ?_⟩⟩
          rw [yr133_6 hk5, hE, wr_id (by omega) (by omega)]
          exact this
        · rw [if_neg hb] at this ⊢
          refine ⟨fun _ => ?_, fun h => absurd rfl h⟩
          rw [wr_id (by omega) (by omega)]
          exact this
  exact go (p 3).toNat 0 (by omega)
/-! days -/
theorem drsF_TXT (hT : TXT p ls) {n : Nat} (hn : n ≤ 5) : TXT (drsF p n) ls := hT.cong (drsF_n (by omega) _ (by omega)) (drsF_n (by omega) _ (by omega)) (fun k hk => drsF_n (by omega) _ (by omega))
theorem m_passes (hM : MC V p ls) (hB : Bv V) {b : Int} (hd : 30 ≤ d) (h : ∀ V', dayF V V' → MC V' (dayR p ls b) ls → Q (.inl none) V' D) : RY d 259 0 [vr 405, vi b, vr 0] [] V D Q := by
  obtain ⟨hE, hW, hT, hw⟩ := id hM
  have h3 := hW.1
  have h4 := hW.2.1
  refine u_259_0 ?_
  -- tenants and the day
  have rest : ∀ (V1 : xF), dayF V V1 → MC V1 (if b = 0 then p else drsF p (p 3).toNat) ls → RY d 259 29 [vr 405, vi b, vi 0] [] V1 D Q := by
    intro V1 hF1 hM1
    obtain ⟨q, hq⟩ : ∃ q, q = (if b = 0 then p else drsF p (p 3).toNat) := ⟨_, rfl⟩
    have q4 : q 4 = p 4 := by
      rw [hq]
      split
      · rfl
      · exact drsF_n (by omega) _ (by omega)
    have hday : dayR p ls b = rup (lodsF q ls (p 4).toNat) 12 (dyF (lodsF q ls (p 4).toNat 12)) := by rw [hq]; rfl
    rw [← hq] at hM1
    have go : ∀ (n k : Nat) (V2 : xF), (n : Int) + k = p 4 → dayF V V2 → MC V2 (lodsF q ls k) ls → RY d 259 29 [vr 405, vi b, vi (k : Int)] [] V2 D Q := by
      intro n
      induction n with
      | zero =>
        intro k V2 hk hF2 hM2
        have e4 := (lodsF_WF (ls := ls) hM1.2.1 k (by omega)).2
        refine u_259_29 ⟨fun _ => ?_, fun hlt => ?_⟩
        · rintro V3 hV3
          rw [hM2.1] at hV3
          rw [show k = (p 4).toNat by omega] at hV3 hM2
          have hb12 := hM2.2.1.2.2.2.2.2.2.1
          rw [show yr_169 9999 (wr (lodsF q ls (p 4).toNat 12 + 1)) V2 D = dyF (lodsF q ls (p 4).toNat 12) by
            unfold yr_169 dyF
            rw [wr_id (by omega) (by omega)]
            (repeat' split) <;> omega] at hV3
          have hF3 : dayF V V3 := by rw [hV3]; exact hF2.tr (dayF.up hF2.2.2)
          refine h V3 hF3 ⟨?_, day_WF hW, TXT.day hW hT, hF3.ws hw⟩
          rw [hV3, up406, hM2.1, hday]
        · rw [hM2.1, e4, q4] at hlt
          omega
      | succ n ih =>
        intro k V2 hk hF2 hM2
        have e4 := (lodsF_WF (ls := ls) hM1.2.1 k (by omega)).2
        have e1 : wr ((k : Int) + 1) = ((k + 1 : Nat) : Int) := by rw [wr_id (by omega) (by omega)]; omega
        refine u_259_29 ⟨fun hle => ?_, fun _ => ?_⟩
        · rw [hM2.1, e4, q4] at hle
          clear e1; omega
        · refine m_lodges hM2 hF2.2.2 hd (by rw [e4, q4]; clear e1; omega) fun V3 hF3 hM3 => ?_
          show RY d 259 44 _ _ V3 D Q
          refine u_259_44 ?_
          rw [e1]
          clear e1
          exact ih (k + 1) V3 (by omega) (hF2.tr hF3) hM3
    exact go (p 4).toNat 0 V1 (by omega) hF1 hM1
  -- the draws
  by_cases hb : b = 0
  · rw [if_pos hb] at rest
    have r0 := rest V ⟨Fr.rf, fun _ _ => rfl, hB⟩ hM
    exact u_259_2 ⟨fun _ => r0, fun _ => ⟨fun _ => r0, fun hn => absurd hb hn⟩⟩
  · rw [if_neg hb] at rest
    have go : ∀ (n k : Nat) (V1 : xF), (n : Int) + k = p 3 → dayF V V1 → MC V1 (drsF p k) ls → RY d 259 2 [vr 405, vi b, vi (k : Int)] [] V1 D Q := by
      intro n
      induction n with
      | zero =>
        intro k V1 hk hF hM1
        have e3 : drsF p k 3 = p 3 := drsF_n (by omega) _ (by omega)
        refine u_259_2 ⟨fun _ => ?_, fun hlt => ?_⟩
        · rw [show k = (p 3).toNat by omega] at hM1
          exact rest V1 hF hM1
        · rw [hM1.1, e3] at hlt
          omega
      | succ n ih =>
        intro k V1 hk hF hM1
        have hk5 : k < 5 := by omega
        have e3 : drsF p k 3 = p 3 := drsF_n (by omega) _ (by omega)
        have e1 : wr ((k : Int) + 1) = ((k + 1 : Nat) : Int) := by rw [wr_id (by omega) (by omega)]; omega
        refine u_259_2 ⟨fun hle => ?_, fun _ => ⟨fun hn => absurd hn hb, fun _ => ?_⟩⟩
        · rw [hM1.1, e3] at hle
          clear e1; omega
        · rintro V2 hV2
          rw [hM1.1, show wr (wr (1103515245 * drsF p k 15) + 12345) = nxs (drsF p k 15) from rfl] at hV2
          have m2 : V2 406 = rup (drsF p k) 15 (nxs (drsF p k 15)) := by rw [hV2, up406, hM1.1]
          have hF2 : dayF V V2 := by rw [hV2]; exact hF.tr (dayF.up hF.2.2)
          rw [m2, rup_a, rup_n (by decide), show xand (xushr (nxs (drsF p k 15)) 16) 32767 = dvs (nxs (drsF p k 15)) from rfl]
          refine ⟨fun hyes => ?_, fun hno => ?_⟩
          · have hbt : drB (drsF p k) = true := decide_eq_true hyes
            rintro V3 hV3 V4 hV4
            rw [show wr (wr (1103515245 * nxs (drsF p k 15)) + 12345) = nxs (nxs (drsF p k 15)) from rfl] at hV3
            have m3 : V3 406 = rup (drsF p k) 15 (nxs (nxs (drsF p k 15))) := by rw [hV3, up406, m2, rup_rup]
            rw [m3, rup_a, show wr (wr (1103515245 * nxs (nxs (drsF p k 15))) + 12345) = nxs (nxs (nxs (drsF p k 15))) from rfl] at hV4
            have m4 : V4 406 = rup (drsF p k) 15 (nxs (nxs (nxs (drsF p k 15)))) := by rw [hV4, up406, m3, rup_rup]
            have hF4 : dayF V V4 := by rw [hV4, hV3]; exact (hF2.tr (dayF.up hF2.2.2)).tr (dayF.up (by unfold Bv; rw [up2_na (by decide)]; exact hF2.2.2))
            rw [m3, m4, rup_a, rup_a, show xand (xushr (nxs (nxs (drsF p k 15))) 16) 32767 = dvs (nxs (nxs (drsF p k 15))) from rfl, show xand (xushr (nxs (nxs (nxs (drsF p k 15)))) 16) 32767 = dvs (nxs (nxs (nxs (drsF p k 15)))) from rfl]
            have hm4 := dv_m (nxs (nxs (drsF p k 15))) 4 (by omega)
            have ei : wr ((wr ((wr ((16 : Int) + (wr ((7 : Int) * (k : Int))))) + 2)) + (dvs (nxs (nxs (drsF p k 15)))).tmod 4) = ((18 + 7 * k + ((dvs (nxs (nxs (drsF p k 15)))).tmod 4).toNat : Nat) : Int) := by
              rw [wr_id (x := 7 * (k : Int)) (by omega) (by omega), wr_id (x := 16 + 7 * (k : Int)) (by omega) (by omega), wr_id (x := 16 + 7 * (k : Int) + 2) (by omega) (by omega), wr_id (by omega) (by omega)]
              omega
            rw [ei, nn_toNat]
            refine ⟨by clear ei e1; omega, ?_⟩
            rintro V5 hV5
            have hF5 : dayF V V5 := by rw [hV5]; exact hF4.tr (dayF.up hF4.2.2)
            rw [e1]
            refine ih (k + 1) V5 (by clear e1 ei; omega) hF5 ⟨?_, drsF_WF hW _ (by clear e1 ei; omega), drsF_TXT hT (by clear e1 ei; omega), hF5.ws hw⟩
            show V5 406 = drS (drsF p k) k
            unfold drS
            rw [if_pos hbt, hV5, up406, m4]
          · have hbf : drB (drsF p k) = false := decide_eq_false (Int.not_lt.mpr hno)
            rw [e1]
            refine ih (k + 1) V2 (by clear e1; omega) hF2 ⟨?_, drsF_WF hW _ (by clear e1; omega), drsF_TXT hT (by clear e1; omega), hF2.ws hw⟩
            show V2 406 = drS (drsF p k) k
            unfold drS
            rw [if_neg (by rw [hbf]; decide), m2]
    exact go (p 3).toNat 0 V (by omega) ⟨Fr.rf, fun _ _ => rfl, hB⟩ hM
theorem days_TXT (hW : WF p) (hT : TXT p ls) {b : Int} : ∀ n, TXT (daysR p ls b n) ls
  | 0 => hT
  | n + 1 => TXT.day (days_WF hW n) (days_TXT hW hT n)
theorem m_goes (hM : MC V p ls) (hB : Bv V) {b : Int} {n : Nat} (hn : n ≤ 60) (hd : 30 ≤ d) (h : ∀ V', dayF V V' → MC V' (daysR p ls b n) ls → Q (.inl none) V' D) : RY d 158 0 [vr 405, vi (n : Int), vi b, vr 0] [] V D Q := by
  refine u_158_0 ?_
  have go : ∀ (m k : Nat) (V1 : xF), m + k = n → dayF V V1 → MC V1 (daysR p ls b k) ls → RY d 158 2 [vr 405, vi (n : Int), vi b, vi (k : Int)] [] V1 D Q := by
    intro m
    induction m with
    | zero =>
      intro k V1 hk hF hM1
      have hk : k = n := by omega
      subst hk
      exact u_158_2 ⟨fun _ => h V1 hF hM1, fun hlt => absurd hlt (Int.lt_irrefl _)⟩
    | succ m ih =>
      intro k V1 hk hF hM1
      have e1 : wr ((k : Int) + 1) = ((k + 1 : Nat) : Int) := by rw [wr_id (by omega) (by omega)]; omega
      refine u_158_2 ⟨fun hle => ?_, fun _ => ?_⟩
      · clear e1; omega
      · refine m_passes hM1 hF.2.2 hd fun V2 hF2 hM2 => ?_
        show RY d 158 12 _ _ V2 D Q
        refine u_158_12 ?_
        rw [e1]
        clear e1
        exact ih (k + 1) V2 (by omega) (hF.tr hF2) hM2
  exact go n 0 V (by omega) ⟨Fr.rf, fun _ _ => rfl, hB⟩ hM
end GOES
