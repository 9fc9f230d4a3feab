/-! ===== LETTINGS BY WHICH MOST IS PAID ===== -/
theorem yR395 {lw : Nat → Nat} {kd : Nat → Nat × Nat} {t : Nat} (ht : t ≤ 5) : yR lw kd 395 t = 396 + t := by
  have : t = 0 ∨ t = 1 ∨ t = 2 ∨ t = 3 ∨ t = 4 ∨ t = 5 := by omega
  rcases this with rfl | rfl | rfl | rfl | rfl | rfl <;> rfl
theorem yK396 {kd : Nat → Nat × Nat} {t : Nat} (ht : t ≤ 5) : yK kd (396 + t) = (20, 32) := by
  have : t = 0 ∨ t = 1 ∨ t = 2 ∨ t = 3 ∨ t = 4 ∨ t = 5 := by omega
  rcases this with rfl | rfl | rfl | rfl | rfl | rfl <;> rfl
theorem yK395 {kd : Nat → Nat × Nat} : 24 ≤ (yK kd 395).1 ∧ (yK kd 395).1 ≤ 25 := ⟨(by show 24 ≤ 25; decide), (by show 25 ≤ 25; decide)⟩
def orN (u r : Nat) : Nat := (xor_ (u : Int) (xshl 1 (r : Int))).toNat
theorem orN_i {u r : Nat} (hu : u < 32) (hr : r < 5) : xor_ (u : Int) (xshl 1 (r : Int)) = ((orN u r : Nat) : Int) ∧ orN u r < 32 := by
  have := or_lt (x := (u : Int)) (k := r) (by omega) hr
  unfold orN
  omega
def mxR (D : Nat → Int) (R : Nat → Int) (ok : Nat → Bool) (u : Nat) : Nat → Int
  | 0 => D u
  | n + 1 => if ok n = true ∧ mxR D R ok u n < R n + D (orN u n) then R n + D (orN u n) else mxR D R ok u n
def okU (p : Rw) (ls : List Ln) (t u r : Nat) : Bool := !rFR p ls t r && !tb (u : Int) r
/-- the most, of m tenants that are left -/
def dpF (p : Rw) (ls : List Ln) : Nat → Nat → Int
  | 0 => fun _ => 0
  | m + 1 => fun u => mxR (dpF p ls m) (rR p) (okU p ls ((p 4).toNat - 1 - m) u) u (p 3).toNat
/-- of the tenants from t on -/
abbrev dpT (p : Rw) (ls : List Ln) (t u : Nat) : Int := dpF p ls ((p 4).toNat - t) u
theorem dpT_s {p : Rw} {ls : List Ln} {t u : Nat} (ht : t < (p 4).toNat) : dpT p ls t u = mxR (dpT p ls (t + 1)) (rR p) (okU p ls t u) u (p 3).toNat := by
  unfold dpT
  rw [show (p 4).toNat - t = ((p 4).toNat - (t + 1)) + 1 by omega]
  show mxR (dpF p ls ((p 4).toNat - (t + 1))) (rR p) (okU p ls ((p 4).toNat - 1 - ((p 4).toNat - (t + 1))) u) u (p 3).toNat = _
  rw [show (p 4).toNat - 1 - ((p 4).toNat - (t + 1)) = t by omega]
theorem mxR_b {D R : Nat → Int} {ok : Nat → Bool} {u : Nat} {B : Int} : ∀ n, (∀ r, r < n → 0 ≤ R r ∧ R r ≤ 99) → (∀ v, 0 ≤ D v ∧ D v ≤ B) → D u ≤ mxR D R ok u n ∧ mxR D R ok u n ≤ B + 99
  | 0, _, hD => ⟨Int.le_refl _, by have := hD u; show D u ≤ _; omega⟩
  | n + 1, hR, hD => by
    have ih := mxR_b (ok := ok) (u := u) n (fun r hr => hR r (by omega)) hD
    have h1 := hR n (by omega)
    have h2 := hD (orN u n)
    unfold mxR
    split <;> omega
theorem dpF_b {p : Rw} {ls : List Ln} (hW : WF p) : ∀ m u, 0 ≤ dpF p ls m u ∧ dpF p ls m u ≤ 99 * (m : Int)
  | 0, u => ⟨Int.le_refl _, Int.le_refl _⟩
  | m + 1, u => by
    have h3 := hW.1
    have ih := fun u => dpF_b (ls := ls) hW m u
    have := mxR_b (D := dpF p ls m) (R := rR p) (ok := okU p ls ((p 4).toNat - 1 - m) u) (u := u) (B := 99 * (m : Int)) (p 3).toNat (fun r hr => hW.rent (by omega)) ih
    have h2 := ih u
    show 0 ≤ mxR _ _ _ _ _ ∧ mxR _ _ _ _ _ ≤ _
    omega
theorem dpT_b {p : Rw} {ls : List Ln} (hW : WF p) {t u : Nat} : 0 ≤ dpT p ls t u ∧ dpT p ls t u ≤ 495 := by
  have h4 := hW.2.1
  have := dpF_b (ls := ls) hW ((p 4).toNat - t) u
  unfold dpT
  omega
theorem mxR_ex {D R : Nat → Int} {ok : Nat → Bool} {u : Nat} : ∀ n, mxR D R ok u n = D u ∨ ∃ r, r < n ∧ ok r = true ∧ mxR D R ok u n = R r + D (orN u r)
  | 0 => Or.inl rfl
  | n + 1 => by
    unfold mxR
    split
    · rename_i h
      exact Or.inr ⟨n, Nat.lt_succ_self n, h.1, rfl⟩
    · rcases mxR_ex (D := D) (R := R) (ok := ok) (u := u) n with h | ⟨r, h1, h2, h3⟩
      · exact Or.inl h
      · exact Or.inr ⟨r, by omega, h2, h3⟩
theorem dpT_le {p : Rw} {ls : List Ln} (hW : WF p) {t u : Nat} (ht : t < (p 4).toNat) : dpT p ls (t + 1) u ≤ dpT p ls t u := by
  have h3 := hW.1
  rw [dpT_s ht]
  exact (mxR_b (D := dpT p ls (t + 1)) (R := rR p) (ok := okU p ls t u) (u := u) (B := 495) (p 3).toNat (fun r hr => hW.rent (by omega)) (fun v => dpT_b hW)).1
/-- a room that a tenant has in a way by which most is paid -/
def wyB (p : Rw) (ls : List Ln) (t u r : Nat) : Bool := okU p ls t u r && decide (rR p r + dpT p ls (t + 1) (orN u r) = dpT p ls t u)
def fndF (p : Rw) (ls : List Ln) (t u : Nat) : Int := if dpT p ls (t + 1) u = dpT p ls t u then -1 else fstB (wyB p ls t u) (p 3).toNat
def wayF_ (p : Rw) (ls : List Ln) : Nat → Nat × Int
  | 0 => (0, -1)
  | k + 1 => (if fndF p ls k (wayF_ p ls k).1 = -1 then (wayF_ p ls k).1 else orN (wayF_ p ls k).1 (fndF p ls k (wayF_ p ls k).1).toNat, fndF p ls k (wayF_ p ls k).1)
def letsF (p : Rw) (ls : List Ln) (t : Int) : Int := if t = -1 then dpT p ls 0 0 else (wayF_ p ls (t.toNat + 1)).2
noncomputable def aLets (p : Rw) (ls : List Ln) (t : Int) : aRes := aIf (t = -1 ∨ (0 ≤ t ∧ t < p 4)) (.inl (letsF p ls t)) (.inr 2)
theorem fndF_b {p : Rw} {ls : List Ln} {t u : Nat} : fndF p ls t u = -1 ∨ ∃ r : Nat, fndF p ls t u = (r : Int) ∧ (r : Int) < p 3 := by
  unfold fndF
  split
  · exact Or.inl rfl
  · rcases fstB_spec (wyB p ls t u) (p 3).toNat with ⟨e, _⟩ | ⟨m, e, h, _⟩
    · exact Or.inl e
    · exact Or.inr ⟨m, e, by omega⟩
theorem way_lt {p : Rw} {ls : List Ln} (hW : WF p) : ∀ k, (wayF_ p ls k).1 < 32
  | 0 => by show 0 < 32; decide
  | k + 1 => by
    have ih := way_lt (ls := ls) hW k
    show (if fndF p ls k (wayF_ p ls k).1 = -1 then (wayF_ p ls k).1 else orN (wayF_ p ls k).1 (fndF p ls k (wayF_ p ls k).1).toNat) < 32
    split
    · exact ih
    · rename_i hn
      rcases fndF_b (p := p) (ls := ls) (t := k) (u := (wayF_ p ls k).1) with e | ⟨r, e, hr⟩
      · exact absurd e hn
      · rw [e, nn_toNat]
        exact (orN_i ih (by have := hW.1; omega)).2
def rfbF (p : Rw) (ls : List Ln) (t : Nat) : Int := bitsT (rFR p ls t) (p 3).toNat
section LETS
variable {d : Nat} {V : xF} {D : yD} {Q : xRes → xF → yD → Prop} {p : Rw} {ls : List Ln}
theorem tb_rfb (hW : WF p) {t r : Nat} (hr : (r : Int) < p 3) : tb (rfbF p ls t) r = rFR p ls t r := by
  have := hW.1
  unfold rfbF
  rw [tb_bitsT (by omega) (by omega), decide_eq_true (by omega), Bool.true_and]
theorem rfb_b (hW : WF p) {t : Nat} : 0 ≤ rfbF p ls t ∧ rfbF p ls t < 32 := bitsT_lt (by have := hW.1; omega)
theorem c_refd (hL : LC 81 V D p ls) {t : Nat} (ht : (t : Int) < p 4) (h : ∀ V', Fr [394] V V' → Q (.inl (some (vi (rfbF p ls t)))) V' D) : RY d 337 0 [vr 390, vr 81, vi (t : Int), vr 0, vr 0] [] V D Q := by
  have h3 := hL.2.1.1
  refine u_337_0_81 ?_
  have go : ∀ (m k : Nat) (V1 : xF), (m : Int) + k = p 3 → Fr [394] V V1 → RY d 337 5 [vr 390, vr 81, vi (t : Int), vi (bitsT (rFR p ls t) k), vi (k : Int)] [] V1 D Q := by
    intro m
    induction m with
    | zero =>
      intro k V1 hk hF
      have hL1 := hL.fr hF (by decide) (by decide)
      refine u_337_5_81 ⟨fun _ => ?_, fun hlt => ?_⟩
      · have := h V1 hF
        unfold rfbF at this
        rw [show (p 3).toNat = k by omega] at this
        exact this
      · rw [hL1.1.rooms] at hlt; omega
    | succ m ih =>
      intro k V1 hk hF
      have hL1 := hL.fr hF (by decide) (by decide)
      have hr : (k : Int) < p 3 := by omega
      have hk5 : k < 5 := by omega
      have e1 : wr ((k : Int) + 1) = ((k + 1 : Nat) : Int) := by rw [wr_id (by omega) (by omega)]; omega
      refine u_337_5_81 ⟨fun hle => ?_, fun _ => ⟨by clear e1; omega, ?_⟩⟩
      · rw [hL1.1.rooms] at hle; clear e1; omega
      · rw [nn_toNat, hL1.rn_81 hk5]
        refine c_rf_81 hL1 ht hr fun V2 hF2 => ?_
        show RY d 337 29 _ _ V2 D Q
        have := ih (k + 1) V2 (by clear e1; omega) (hF.tr hF2)
        rw [show bitsT (rFR p ls t) (k + 1) = if rFR p ls t k = true then xor_ (bitsT (rFR p ls t) k) (xshl 1 (k : Int)) else bitsT (rFR p ls t) k from rfl] at this
        refine u_337_29_81 ⟨fun hf => ?_, fun hf => ?_⟩
        · rw [if_neg (fun g => by rw [show rF p ls t k (rR p k) = true from g, if_pos rfl] at hf; exact absurd hf (by decide))] at this
          rw [e1]; exact this
        · rw [if_pos (Classical.byContradiction fun g => hf (if_neg g))] at this
          rw [e1]; exact this
  exact go (p 3).toNat 0 V (by omega) Fr.rf
abbrev FD : List Nat := [394, 396, 397, 398, 399, 400, 401]
theorem FD_in {t : Nat} (ht : t ≤ 5) : 396 + t ∈ FD := by
  have : t = 0 ∨ t = 1 ∨ t = 2 ∨ t = 3 ∨ t = 4 ∨ t = 5 := by omega
  rcases this with rfl | rfl | rfl | rfl | rfl | rfl <;> decide
/-- rows from t on are told -/
def MR (V : xF) (p : Rw) (ls : List Ln) (t0 : Nat) : Prop := ∀ t u : Nat, t0 ≤ t → t ≤ (p 4).toNat → u < 32 → V (396 + t) u = dpT p ls t u
theorem c_lets0 (hL : LC 81 V D p ls) {i2 : Int} (h : ∀ V' v4 v5 v6, Fr FD V V' → MR V' p ls 0 → RY d 280 20 [vr 390, vr 81, vi i2, vi (-1), v4, v5, v6] [] V' D Q) : RY d 280 0 [vr 390, vr 81, vi i2, vr 0, vr 0, vr 0, vr 0] [] V D Q := by
  have hW := hL.2.1
  have h3 := hW.1
  have h4 := hW.2.1
  have keep : ∀ {V1 : xF}, Fr FD V V1 → LC 81 V1 D p ls := fun hF => hL.fr hF (by decide) (by decide)
  obtain ⟨n, hn⟩ : ∃ n, n = (p 4).toNat := ⟨_, rfl⟩
  have hn4 : p 4 = (n : Int) := by omega
  have hn5 : n ≤ 5 := by omega
  have e6 : V 81 6 = (n : Int) := hL.1.tens.trans hn4
  -- the rows
  have rows : ∀ (t : Nat) (V1 : xF) (v4 v5 v6 : xV), t ≤ n → Fr FD V V1 → MR V1 p ls t → RY d 280 20 [vr 390, vr 81, vi i2, vi ((t : Int) - 1), v4, v5, v6] [] V1 D Q := by
    intro t
    induction t with
    | zero => intro V1 v4 v5 v6 _ hF hM; exact h V1 v4 v5 v6 hF hM
    | succ t iht =>
      intro V1 v4 v5 v6 htn hF hM
      have hL1 := keep hF
      have ht4 : (t : Int) < p 4 := by omega
      have ht5 : t ≤ 5 := by omega
      have et : ((t + 1 : Nat) : Int) - 1 = (t : Int) := by omega
      rw [et]
      refine u_280_20_81 ⟨fun hneg => by omega, fun _ => c_refd hL1 ht4 fun V2 hF2 => ?_⟩
      show RY d 280 30 _ _ V2 D Q
      refine u_280_30_81 ?_
      have hM2 : MR V2 p ls (t + 1) := fun t' u h1 h2 h3 => by rw [hF2 (396 + t') (by simp; omega)]; exact hM t' u h1 h2 h3
      have F2 : Fr FD V V2 := hF.tr (hF2.sub (by decide))
      -- the cells of a row
      have cells : ∀ (m u : Nat) (V3 : xF) (v6 : xV), m + u = 32 → Fr FD V V3 → MR V3 p ls (t + 1) → (∀ j, j < u → V3 (396 + t) j = dpT p ls t j) → RY d 280 35 [vr 390, vr 81, vi i2, vi (t : Int), vi (rfbF p ls t), vi (u : Int), v6] [] V3 D Q := by
        intro m
        induction m with
        | zero =>
          intro u V3 v6 hu hF3 hM3 hC
          have hu : u = 32 := by omega
          subst hu
          refine u_280_35_81 ⟨fun _ => ?_, fun hlt => absurd hlt (by decide)⟩
          have e1 : wr ((t : Int) + (-1)) = (t : Int) - 1 := by rw [wr_id (by omega) (by omega)]; omega
          rw [e1]
          clear e1
          refine iht V3 _ _ _ (by omega) hF3 fun t' u h1 h2 h3 => ?_
          by_cases e : t' = t
          · rw [e]; exact hC u h3
          · exact hM3 t' u (by omega) h2 h3
        | succ m ihm =>
          intro u V3 v6 hu hF3 hM3 hC
          have hu32 : u < 32 := by omega
          have e1 : wr ((t : Int) + 1) = ((t + 1 : Nat) : Int) := by rw [wr_id (by omega) (by omega)]; omega
          refine u_280_35_81 ⟨fun hle => by clear e1; omega, fun _ => ⟨yK395, by clear e1; omega, by rw [nn_toNat, yR395 ht5]; clear e1; omega, ?_⟩⟩
          rintro q1 hq1
          rw [nn_toNat, yR395 ht5] at hq1
          subst hq1
          rw [e1]
          refine ⟨yK395, by clear e1; omega, by rw [nn_toNat, yR395 (by clear e1; omega)]; clear e1; omega, ?_⟩
          rintro q2 hq2
          rw [nn_toNat, yR395 (by clear e1; omega)] at hq2
          subst hq2
          rw [yK396 ht5, yK396 (t := t + 1) (by clear e1; omega)]
          refine ⟨⟨by decide, by decide⟩, ⟨by clear e1; omega, by show (u : Int) < ((32 : Nat) : Int); clear e1; omega⟩, rfl, ⟨by clear e1; omega, by show (u : Int) < ((32 : Nat) : Int); clear e1; omega⟩, ?_⟩
          rintro V4 hV4
          rw [nn_toNat, hM3 (t + 1) u (Nat.le_refl _) (by clear e1; omega) hu32] at hV4
          clear e1
          -- the rooms of a cell
          have rooms : ∀ (m' r : Nat) (V5 : xF), (m' : Int) + r = p 3 → Fr FD V V5 → MR V5 p ls (t + 1) → (∀ j, j < u → V5 (396 + t) j = dpT p ls t j) → V5 (396 + t) u = mxR (dpT p ls (t + 1)) (rR p) (okU p ls t u) u r → RY d 280 65 [vr 390, vr 81, vi i2, vi (t : Int), vi (rfbF p ls t), vi (u : Int), vi (r : Int)] [] V5 D Q := by
            intro m'
            induction m' with
            | zero =>
              intro r V5 hr hF5 hM5 hC5 hu5
              have hL5 := keep hF5
              have eu : wr ((u : Int) + 1) = ((u + 1 : Nat) : Int) := by rw [wr_id (by omega) (by omega)]; omega
              refine u_280_65_81 ⟨fun _ => ?_, fun hlt => ?_⟩
              · rw [eu]
                clear eu
                refine ihm (u + 1) V5 _ (by omega) hF5 hM5 fun j hj => ?_
                by_cases e : j = u
                · rw [e, hu5, dpT_s (by omega), show r = (p 3).toNat by omega]
                · exact hC5 j (by omega)
              · rw [hL5.1.rooms] at hlt; clear eu; omega
            | succ m' ihr =>
              intro r V5 hr hF5 hM5 hC5 hu5
              have hL5 := keep hF5
              have hr3 : (r : Int) < p 3 := by omega
              have hr5 : r < 5 := by omega
              have er : wr ((r : Int) + 1) = ((r + 1 : Nat) : Int) := by rw [wr_id (by omega) (by omega)]; omega
              have e1 : wr ((t : Int) + 1) = ((t + 1 : Nat) : Int) := by rw [wr_id (by omega) (by omega)]; omega
              have hlor := tb_lor (rfb_b (ls := ls) (t := t) hW) (y := (u : Int)) (by clear er e1; omega)
              have hbt := bit_tb hlor.1 hr5
              rw [hlor.2 r hr5, tb_rfb hW hr3] at hbt
              obtain ⟨o1, o2⟩ := orN_i hu32 hr5
              refine u_280_65_81 ⟨fun hle => ?_, fun _ => ⟨fun hb => ?_, fun hb => ?_⟩⟩
              · rw [hL5.1.rooms] at hle; clear er e1; omega
              · rw [hbt] at hb
                have hb : (rFR p ls t r || tb (u : Int) r) = true := Classical.byContradiction fun g => hb (if_neg g)
                have hno : okU p ls t u r = false := by unfold okU; rw [← Bool.not_or, hb]; rfl
                rw [er]
                clear er e1
                refine ihr (r + 1) V5 (by omega) hF5 hM5 hC5 ?_
                rw [hu5]
                show _ = if okU p ls t u r = true ∧ _ then _ else _
                rw [if_neg (fun g => by rw [hno] at g; exact absurd g.1 (by decide))]
              · rw [hbt] at hb
                have hyes : okU p ls t u r = true := by
                  unfold okU
                  rw [← Bool.not_or]
                  cases hx : (rFR p ls t r || tb (u : Int) r)
                  · rfl
                  · rw [hx] at hb; exact absurd hb (by decide)
                have g1 : (0 : Int) ≤ (t : Int) ∧ (t : Int) < (6 : Int) := by clear er e1; omega
                have g2 : (0 : Int) ≤ (u : Int) ∧ (u : Int) < ((32 : Nat) : Int) := by clear er e1; omega
                have y1 := yR395 (lw := D.2.1) (kd := D.2.2.1) ht5
                have y2 := yR395 (lw := D.2.1) (kd := D.2.2.1) (t := t + 1) (by clear er e1; omega)
                rw [nn_toNat, y1, e1, nn_toNat, y2, o1]
                refine ⟨yK395, g1, by clear er e1; omega, ?_⟩
                rintro q1 rfl
                refine ⟨yK395, g1, by clear er e1; omega, ?_⟩
                rintro q2 rfl
                rw [yK396 ht5]
                refine ⟨⟨by decide, by decide⟩, g2, by clear er e1; omega, yK395, by clear er e1; omega, by clear er e1; omega, ?_⟩
                rintro q3 rfl
                rw [yK396 (t := t + 1) (by clear er e1; omega)]
                refine ⟨⟨by decide, by decide⟩, ⟨by clear er e1; omega, by show ((orN u r : Nat) : Int) < ((32 : Nat) : Int); clear er e1; omega⟩, rfl, g2, ?_⟩
                rintro V6 hV6
                rw [nn_toNat, nn_toNat, nn_toNat, hu5, hM5 (t + 1) (orN u r) (Nat.le_refl _) (by clear er e1; omega) o2, hL5.rn_81 hr5] at hV6
                have b1 := dpT_b (ls := ls) (t := t + 1) (u := orN u r) hW
                have b2 := hW.rent hr3
                have ev : yr_292 (mxR (dpT p ls (t + 1)) (rR p) (okU p ls t u) u r) (wr (rR p r + dpT p ls (t + 1) (orN u r))) V5 D = mxR (dpT p ls (t + 1)) (rR p) (okU p ls t u) u (r + 1) := by
                  rw [wr_id (by clear er e1; omega) (by clear er e1; omega)]
                  unfold yr_292
                  show _ = if okU p ls t u r = true ∧ mxR (dpT p ls (t + 1)) (rR p) (okU p ls t u) u r < rR p r + dpT p ls (t + 1) (orN u r) then rR p r + dpT p ls (t + 1) (orN u r) else mxR (dpT p ls (t + 1)) (rR p) (okU p ls t u) u r
                  by_cases hlt : mxR (dpT p ls (t + 1)) (rR p) (okU p ls t u) u r < rR p r + dpT p ls (t + 1) (orN u r)
                  · rw [if_pos hlt, if_pos ⟨hyes, hlt⟩]
                  · rw [if_neg hlt, if_neg (fun g => hlt g.2)]
                rw [ev] at hV6
                rw [er]
                clear er e1 ev
                refine ihr (r + 1) V6 (by omega) (by rw [hV6]; exact hF5.tr (Fr.up (FD_in ht5))) (fun t' u' h1 h2 h3 => ?_) (fun j hj => ?_) (by rw [hV6, up2_at])
                · rw [hV6, up2_na (by omega)]; exact hM5 t' u' h1 h2 h3
                · rw [hV6, up2_ni (by omega)]; exact hC5 j hj
          refine rooms (p 3).toNat 0 V4 (by omega) (by rw [hV4]; exact hF3.tr (Fr.up (FD_in ht5))) (fun t' u' h1 h2 h3 => ?_) (fun j hj => ?_) (by rw [hV4, up2_at]; rfl)
          · rw [hV4, up2_na (by omega)]; exact hM3 t' u' h1 h2 h3
          · rw [hV4, up2_ni (by omega)]; exact hC j hj
      exact cells 32 0 V2 _ rfl F2 hM2 (fun j hj => absurd hj (Nat.not_lt_zero _))
  -- the last row is empty
  refine u_280_0_81 ⟨yK395, by rw [e6]; omega, by rw [e6, nn_toNat, yR395 hn5]; omega, ?_⟩
  rintro q1 hq1
  rw [e6, nn_toNat, yR395 hn5] at hq1
  subst hq1
  refine u_286_0 ⟨by omega, by rw [yK396 hn5]; exact ⟨by decide, by decide⟩, ?_⟩
  rw [yK396 hn5]
  have fill : ∀ (m k : Nat) (V1 : xF), m + k = 32 → Fr FD V V1 → (∀ j, j < k → V1 (396 + n) j = 0) → RY d 286 5 [vr (396 + n), vi 0, vi (k : Int), vi ((32 : Nat) : Int)] [] V1 D (yback d 280 13 [vr 390, vr 81, vi i2, vr 0, vr 0, vr 0, vr 0] [] Q) := by
    intro m
    induction m with
    | zero =>
      intro k V1 hk hF hz
      have hk : k = 32 := by omega
      subst hk
      refine u_286_5 ⟨fun _ => ?_, fun hlt => absurd hlt (by decide)⟩
      show RY d 280 13 _ _ V1 D Q
      refine u_280_13_81 ?_
      rw [(keep hF).1.tens, hn4, wr_id (by omega) (by omega)]
      refine rows n V1 _ _ _ (Nat.le_refl _) hF fun t' u h1 h2 h3 => ?_
      have : t' = n := by omega
      subst this
      rw [hz u h3]
      show (0 : Int) = dpF p ls ((p 4).toNat - t') u
      rw [show (p 4).toNat - t' = 0 by omega]
      rfl
    | succ m ih =>
      intro k V1 hk hF hz
      have e1 : wr ((k : Int) + 1) = ((k + 1 : Nat) : Int) := by rw [wr_id (by omega) (by omega)]; omega
      refine u_286_5 ⟨fun hle => by clear e1; omega, fun _ => ⟨by clear e1; omega, by rw [yK396 hn5], by rw [yK396 hn5]; exact ⟨by clear e1; omega, by show (k : Int) < ((32 : Nat) : Int); clear e1; omega⟩, ?_⟩⟩
      rintro V2 hV2
      rw [nn_toNat] at hV2
      rw [e1]
      clear e1
      refine ih (k + 1) V2 (by omega) (by rw [hV2]; exact hF.tr (Fr.up (FD_in hn5))) fun j hj => ?_
      rw [hV2, up2_a]
      by_cases e : j = k
      · rw [if_pos e]
      · rw [if_neg e]; exact hz j (by omega)
  exact fill 32 0 V rfl Fr.rf (fun j hj => absurd hj (Nat.not_lt_zero _))
end LETS
