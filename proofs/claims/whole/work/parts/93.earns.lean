/-! ===== WHAT A ROOM EARNS; THE DEAREST; SHARES ===== -/
def tkB (p : Rw) (ls : List Ln) (r : Nat) (n : Int) (t : Nat) : Bool := !rF p ls t r n && decide (0 ≤ eS p ls t r n)
def cnB (b : Nat → Bool) : Nat → Int
  | 0 => 0
  | n + 1 => cnB b n + (if b n = true then 1 else 0)
theorem cnB_b {b : Nat → Bool} : ∀ n : Nat, 0 ≤ cnB b n ∧ cnB b n ≤ (n : Int)
  | 0 => ⟨Int.le_refl _, Int.le_refl _⟩
  | n + 1 => by
    have := cnB_b (b := b) n
    unfold cnB
    split <;> omega
def earnF (p : Rw) (ls : List Ln) (r : Nat) (n : Int) : Int := n * cnB (tkB p ls r n) (p 4).toNat
def drT (e : Nat → Int) : Nat → Nat
  | 0 => 0
  | k + 1 => if e (drT e k) < e (k + 1) then k + 1 else drT e k
def dearF (p : Rw) (ls : List Ln) (r : Nat) : Int := ((drT (fun n : Nat => earnF p ls r (n : Int)) 99 : Nat) : Int)
def shareF (p : Rw) (r : Nat) : Int := if rentsF p = 0 then 0 else if hdr p (r : Int) = -1 then 0 else wr ((wr (100 * rR p r)).tdiv (rentsF p))
noncomputable def aEarns (p : Rw) (ls : List Ln) (r n : Int) : aRes := aIf (0 ≤ r ∧ r < p 3) (aIf (0 ≤ n ∧ n ≤ 99) (.inl (earnF p ls r.toNat n)) (.inr 0)) (.inr 2)
theorem hearM_c2 {q p : Rw} {r : Nat} (h1 : rW q r = rW p r) (h2 : rD q r = rD p r) (h3 : ∀ w, w < 4 → rS q r w = rS p r w) (h8 : q 8 = p 8) (h9 : q 9 = p 9) (h10 : q 10 = p 10) : hearM q r = hearM p r := by
  funext t
  unfold hearM
  rw [h1, h2]
  exact hear_cong h1 h2 h3 h8 h9 h10 t
/-- esteem looks not at the rents -/
theorem eS_rent {p : Rw} {ls : List Ln} {t r r' : Nat} {n z : Int} (ht : t < 5) (hr : r < 5) (hr' : r' < 5) : eS (rup p (22 + 7 * r') z) ls t r n = eS p ls t r n ∧ rF (rup p (22 + 7 * r') z) ls t r n = rF p ls t r n := by
  have n' : ∀ k, k ≠ 22 + 7 * r' → rup p (22 + 7 * r') z k = p k := fun k hk => rup_n hk
  have hh : hearM (rup p (22 + 7 * r') z) r = hearM p r := hearM_c2 (n' _ (by omega)) (n' _ (by omega)) (fun w hw => n' _ (by omega)) (n' _ (by omega)) (n' _ (by omega)) (n' _ (by omega))
  have e1 : hcn (rup p (22 + 7 * r') z) r = hcn p r := by unfold hcn; rw [hh]
  have e2 : hld (rup p (22 + 7 * r') z) r = hld p r := by unfold hld; rw [hh]
  have e3 : rW (rup p (22 + 7 * r') z) r = rW p r := n' _ (by omega)
  have e4 : rD (rup p (22 + 7 * r') z) r = rD p r := n' _ (by omega)
  have e5 : dB_ (rup p (22 + 7 * r') z) r = dB_ p r := by unfold dB_ dO_; rw [n' _ (by omega), n' _ (by omega), n' _ (by omega), n' _ (by omega), n' _ (by omega)]
  have e6 : tW_ (rup p (22 + 7 * r') z) t = tW_ p t := n' _ (by omega)
  have e7 : tP_ (rup p (22 + 7 * r') z) t = tP_ p t := n' _ (by omega)
  have e8 : fF (rup p (22 + 7 * r') z) t r n = fF p t r n := by
    funext k
    unfold fF
    rw [e1, e2, e3, e4, n' 12 (by omega)]
  unfold eS rF
  rw [e8]
  show 20 - n - 5 * (if hcn (rup p (22 + 7 * r') z) r ≤ tW_ (rup p (22 + 7 * r') z) t then 0 else hcn (rup p (22 + 7 * r') z) r - tW_ (rup p (22 + 7 * r') z) t) + balZ (fF p t r n) (decide (hcn (rup p (22 + 7 * r') z) r = 0)) (decide (dB_ (rup p (22 + 7 * r') z) r ≠ 0)) ls = _ ∧ (decide (tP_ (rup p (22 + 7 * r') z) t < n) || refB (fF p t r n) (decide (hcn (rup p (22 + 7 * r') z) r = 0)) (decide (dB_ (rup p (22 + 7 * r') z) r ≠ 0)) ls) = _
  rw [e1, e5, e6, e7]
  exact ⟨rfl, rfl⟩
theorem WF.rentz {p : Rw} (hW : WF p) {r : Nat} {z : Int} (hr : r < 5) (hz : 0 ≤ z ∧ z ≤ 99) : WF (rup p (22 + 7 * r) z) := by
  have n : ∀ k, k ≠ 22 + 7 * r → rup p (22 + 7 * r) z k = p k := fun k hk => rup_n hk
  obtain ⟨g1, g2, g3, g4, g5, g6, g7, g8, g9, g10, g11, g12, g13, g14, g15, g16⟩ := hW
  unfold WF
  rw [n 3 (by omega), n 4 (by omega), n 0 (by omega), n 1 (by omega), n 5 (by omega), n 6 (by omega), n 7 (by omega), n 8 (by omega), n 9 (by omega), n 10 (by omega), n 11 (by omega), n 12 (by omega), n 13 (by omega), n 14 (by omega)]
  refine ⟨g1, g2, g3, g4, g5, g6, g7, g8, g9, g10, g11, fun o ho => ?_, fun u hu => ?_, fun u v hu hv => ?_, fun x y hx hy => ?_, ?_⟩
  · have := g12 o ho
    unfold rW rD rS rR at *
    rw [n _ (by omega), n _ (by omega)]
    refine ⟨this.1, this.2.1, fun w hw => by rw [n _ (by omega)]; exact this.2.2.1 w hw, ?_⟩
    unfold rup
    split
    · exact hz
    · exact this.2.2.2
  · have := g13 u hu
    unfold tP_ tW_ tL_ at *
    rw [n _ (by omega), n _ (by omega), n _ (by omega)]
    exact this
  · have := g14 u v hu hv
    unfold tL_ at *
    rw [n _ (by omega), n _ (by omega)]
    exact this
  · unfold dO_
    rw [n _ (by omega), n _ (by omega)]
    exact g15 x y hx hy
  · rcases g16 with h | h
    · exact Or.inl h
    · right
      unfold rW rD at *
      rw [n _ (by omega), n _ (by omega)]
      exact h
section EARNS
variable {d : Nat} {V : xF} {D : yD} {Q : xRes → xF → yD → Prop} {p : Rw} {ls : List Ln}
theorem earn_b (hW : WF p) {r : Nat} {n : Int} (hn : 0 ≤ n ∧ n ≤ 99) : 0 ≤ earnF p ls r n ∧ earnF p ls r n ≤ 495 := by
  have h4 := hW.2.1
  have hb := cnB_b (b := tkB p ls r n) (p 4).toNat
  unfold earnF
  have h1 : 0 ≤ n * cnB (tkB p ls r n) (p 4).toNat := Int.mul_nonneg hn.1 hb.1
  have h2 : n * cnB (tkB p ls r n) (p 4).toNat ≤ 99 * cnB (tkB p ls r n) (p 4).toNat := Int.mul_le_mul_of_nonneg_right hn.2 hb.1
  omega
theorem c_earn (hL : LC 81 V D p ls) {r : Nat} {n : Int} (hr : (r : Int) < p 3) (hn : 0 ≤ n ∧ n ≤ 99) (h : ∀ V', Fr [394] V V' → Q (.inl (some (vi (earnF p ls r n)))) V' D) : RY d 282 0 [vr 390, vr 81, vi (r : Int), vi n, vr 0, vr 0] [] V D Q := by
  have h4 := hL.2.1.2.1
  refine u_282_0_81 ?_
  have go : ∀ (m k : Nat) (V1 : xF), (m : Int) + k = p 4 → Fr [394] V V1 → RY d 282 6 [vr 390, vr 81, vi (r : Int), vi n, vi (cnB (tkB p ls r n) k), vi (k : Int)] [] V1 D Q := by
    intro m
    induction m with
    | zero =>
      intro k V1 hk hF
      have hL1 := hL.fr hF (by decide) (by decide)
      refine u_282_6_81 ⟨fun _ => ?_, fun hlt => ?_⟩
      · have hb := earn_b (ls := ls) (r := r) hL.2.1 hn
        have := h V1 hF
        unfold earnF at this hb
        rw [show (p 4).toNat = k by omega] at this hb
        rw [wr_id (by omega) (by omega)]
        exact this
      · rw [hL1.1.tens] at hlt; omega
    | succ m ih =>
      intro k V1 hk hF
      have hL1 := hL.fr hF (by decide) (by decide)
      have ht : (k : Int) < p 4 := by omega
      have hb := cnB_b (b := tkB p ls r n) k
      have e1 : wr ((k : Int) + 1) = ((k + 1 : Nat) : Int) := by rw [wr_id (by omega) (by omega)]; omega
      have e2 : wr (cnB (tkB p ls r n) k + 1) = cnB (tkB p ls r n) k + 1 := wr_id (by clear e1; omega) (by clear e1; omega)
      have hu : cnB (tkB p ls r n) (k + 1) = cnB (tkB p ls r n) k + (if tkB p ls r n k = true then 1 else 0) := rfl
      refine u_282_6_81 ⟨fun hle => ?_, fun _ => ?_⟩
      · rw [hL1.1.tens] at hle; clear e1 e2; omega
      · refine c_rf_81 hL1 ht hr fun V2 hF2 => ?_
        show RY d 282 24 _ _ V2 D Q
        have hL2 := hL1.fr hF2 (by decide) (by decide)
        refine u_282_24_81 ⟨fun hf => ?_, fun hf => ?_⟩
        · have hf : rF p ls k r n = true := Classical.byContradiction fun g => hf (if_neg g)
          have := ih (k + 1) V2 (by clear e1 e2; omega) (hF.tr hF2)
          rw [hu, show tkB p ls r n k = false by unfold tkB; rw [hf]; rfl, if_neg (by decide), Int.add_zero] at this
          rw [e1]; exact this
        · have hf : rF p ls k r n = false := by
            cases hx : rF p ls k r n
            · rfl
            · rw [hx] at hf; exact absurd hf (by decide)
          refine c_es_81 hL2 ht hr hn fun V3 hF3 => ?_
          show RY d 282 36 _ _ V3 D Q
          have := ih (k + 1) V3 (by clear e1 e2; omega) ((hF.tr hF2).tr hF3)
          refine u_282_36_81 ⟨fun hneg => ?_, fun hnn => ?_⟩
          · rw [hu, show tkB p ls r n k = false by unfold tkB; rw [hf, decide_eq_false (Int.not_le.mpr hneg)]; rfl, if_neg (by decide), Int.add_zero] at this
            rw [e1]; exact this
          · rw [hu, show tkB p ls r n k = true by unfold tkB; rw [hf, decide_eq_true hnn]; rfl, if_pos rfl] at this
            rw [e1, e2]; exact this
  exact go (p 4).toNat 0 V (by omega) Fr.rf
theorem c_dear (hL : LC 81 V D p ls) {r : Nat} (hr : (r : Int) < p 3) (h : ∀ V', Fr [394] V V' → Q (.inl (some (vi (dearF p ls r)))) V' D) : RY d 240 0 [vr 390, vr 81, vi (r : Int), vr 0, vr 0, vr 0, vr 0] [] V D Q := by
  refine u_240_0_81 ?_
  obtain ⟨e, he⟩ : ∃ e : Nat → Int, e = fun n : Nat => earnF p ls r (n : Int) := ⟨_, rfl⟩
  have hd9 : dearF p ls r = ((drT e 99 : Nat) : Int) := by rw [he]; rfl
  rw [hd9] at h
  have e0 : e 0 = 0 := by rw [he]; exact Int.zero_mul _
  have go : ∀ (m k : Nat) (V1 : xF) (v6 : xV), m + k = 99 → Fr [394] V V1 → RY d 240 8 [vr 390, vr 81, vi (r : Int), vi ((drT e k : Nat) : Int), vi (e (drT e k)), vi ((k : Int) + 1), v6] [] V1 D Q := by
    intro m
    induction m with
    | zero =>
      intro k V1 v6 hk hF
      have hk : k = 99 := by omega
      subst hk
      exact u_240_8_81 ⟨fun _ => h V1 hF, fun hle => absurd hle (by decide)⟩
    | succ m ih =>
      intro k V1 v6 hk hF
      have hL1 := hL.fr hF (by decide) (by decide)
      refine u_240_8_81 ⟨fun hlt => by omega, fun _ => ?_⟩
      refine c_earn hL1 hr (by omega) fun V2 hF2 => ?_
      show RY d 240 23 _ _ V2 D Q
      have e1 : wr ((k : Int) + 1 + 1) = ((k + 1 : Nat) : Int) + 1 := by rw [wr_id (by omega) (by omega)]; omega
      have ek : earnF p ls r ((k : Int) + 1) = e (k + 1) := by rw [he]; rfl
      rw [ek]
      have := fun v => ih (k + 1) V2 v (by clear e1; omega) (hF.tr hF2)
      rw [show drT e (k + 1) = if e (drT e k) < e (k + 1) then k + 1 else drT e k from rfl] at this
      refine u_240_23_81 ⟨fun hle => ?_, fun hlt => ?_⟩
      · rw [if_neg (Int.not_lt.mpr hle)] at this
        rw [e1]; exact this _
      · rw [if_pos hlt] at this
        rw [e1]; exact this _
  -- a rent of none
  refine u_240_8_81 ⟨fun hlt => absurd hlt (by decide), fun _ => ?_⟩
  refine c_earn hL (n := 0) hr (by omega) fun V2 hF2 => ?_
  show RY d 240 23 _ _ V2 D Q
  rw [show earnF p ls r 0 = 0 from Int.zero_mul _]
  refine u_240_23_81 ⟨fun _ => ?_, fun hlt => absurd hlt (by decide)⟩
  have := go 99 0 V2 (vi 0) rfl hF2
  rw [show e (drT e 0) = 0 from e0] at this
  exact this
theorem c_share (hS : St V 81 p) (hW : WF p) {r : Nat} (hr : (r : Int) < p 3) (h : Q (.inl (some (vi (shareF p r)))) V D) : RY d 241 0 [vr 390, vr 81, vi (r : Int), vr 0] [] V D Q := by
  have h3 := hW.1
  unfold shareF at h
  refine u_241_0_81 (c_letRents_81 hS hW ?_)
  show RY d 241 4 _ _ V D Q
  refine u_241_4_81 ⟨fun hz => ?_, fun hz => c_holder_81 hS hW ?_⟩
  · rw [if_pos hz] at h; exact h
  · show RY d 241 14 _ _ V D Q
    rw [if_neg hz] at h
    refine u_241_14_81 ⟨fun hn => ⟨by omega, hz, ?_⟩, fun hn => ?_⟩
    · rw [if_neg hn] at h
      rw [nn_toNat, show V 85 r = rR p r from hS.2.2.2.2.1 r (by omega)]
      exact h
    · rw [if_pos hn] at h; exact h
theorem m_share (hE : V 406 = p) (hW : WF p) {r : Nat} (hr : (r : Int) < p 3) (h : Q (.inl (some (vi (shareF p r)))) V D) : RY d 140 0 [vr 405, vi (r : Int), vr 0] [] V D Q := by
  have h3 := hW.1
  unfold shareF at h
  refine u_140_0 (m_letOnes (by rw [hE]; exact hW) ?_)
  rw [hE]
  show RY d 140 5 _ _ V D Q
  refine u_140_5 (m_rentsOf hE hW ?_)
  show RY d 140 8 _ _ V D Q
  refine u_140_8 ⟨fun hz => ?_, fun hz => m_holder (by omega) (by rw [hE]; exact hW) ?_⟩
  · rw [if_pos hz] at h; exact h
  · rw [hE]
    show RY d 140 18 _ _ V D Q
    rw [if_neg hz] at h
    refine u_140_18 ⟨fun hn => ⟨yg133 (by omega) (by omega), hz, ?_⟩, fun hn => ?_⟩
    · rw [if_neg hn] at h
      rw [yr133_6 (by omega), hE]
      exact h
    · rw [if_pos hn] at h; exact h
/-! the model's earnings -/
theorem m_earn (hM : MC V p ls) (hB : Bv V) (hd : 30 ≤ d) {r : Nat} {n : Int} (hr : (r : Int) < p 3) (hn : 0 ≤ n ∧ n ≤ 99) (h : ∀ V', dayF V V' → MC V' p ls → Q (.inl (some (vi (earnF p ls r n)))) V' D) : RY d 207 0 [vr 405, vi (r : Int), vi n, vr 0, vr 0, vr 0] [] V D Q := by
  obtain ⟨hE, hW, hT, hw⟩ := id hM
  have h3 := hW.1
  have h4 := hW.2.1
  have hr5 : r < 5 := by omega
  have ei : wr ((wr ((16 : Int) + (wr ((7 : Int) * (r : Int))))) + 6) = ((22 + 7 * r : Nat) : Int) := by
    rw [wr_id (x := 7 * (r : Int)) (by omega) (by omega), wr_id (x := 16 + 7 * (r : Int)) (by omega) (by omega), wr_id (by omega) (by omega)]
    omega
  refine u_207_0 ⟨yg133 hr5 (by omega), ?_, ?_⟩
  · rw [ei]; clear ei; omega
  rintro V1 hV1
  rw [ei, nn_toNat] at hV1
  rw [yr133_6 hr5, hE]
  obtain ⟨q, hq⟩ : ∃ q, q = rup p (22 + 7 * r) n := ⟨_, rfl⟩
  have hM1 : MC V1 q ls := ⟨by rw [hV1, up406, hE, hq], by rw [hq]; exact hW.rentz hr5 hn, hT.cong (by rw [hq]; exact rup_n (by clear ei; omega)) (by rw [hq]; exact rup_n (by clear ei; omega)) (fun k hk => by rw [hq]; exact rup_n (by clear ei; omega)), (show dayF V V1 by rw [hV1]; exact dayF.up hB).ws hw⟩
  have hF1 : dayF V V1 := by rw [hV1]; exact dayF.up hB
  have q4 : q 4 = p 4 := by rw [hq]; exact rup_n (by clear ei; omega)
  have q3 : q 3 = p 3 := by rw [hq]; exact rup_n (by clear ei; omega)
  have qr : rR q r = n := by rw [hq]; exact rup_a
  have go : ∀ (m k : Nat) (V2 : xF), (m : Int) + k = p 4 → askF V1 V2 → RY d 207 30 [vr 405, vi (r : Int), vi n, vi (rR p r), vi (n * cnB (tkB p ls r n) k), vi (k : Int)] [] V2 D Q := by
    intro m
    induction m with
    | zero =>
      intro k V2 hk hF
      have hM2 := hM1.k hF
      refine u_207_30 ⟨fun _ => ⟨by rw [ei]; clear ei; omega, ?_⟩, fun hlt => ?_⟩
      · rintro V3 hV3
        rw [ei, nn_toNat] at hV3
        have hF3 : dayF V V3 := by rw [hV3]; exact (hF1.tr hF.day).tr (dayF.up hF.2.2)
        have := h V3 hF3 ⟨by rw [hV3, up406, hM2.1, hq, rup_rup, rup_same (show p (22 + 7 * r) = rR p r from rfl)], hW, hT, hF3.ws hw⟩
        unfold earnF at this
        rw [show (p 4).toNat = k by clear ei; omega] at this
        exact this
      · rw [hM2.1, q4] at hlt; clear ei; omega
    | succ m ih =>
      intro k V2 hk hF
      have hM2 := hM1.k hF
      have ht : (k : Int) < p 4 := by clear ei; omega
      have ht5 : k < 5 := by clear ei; omega
      have hb := cnB_b (b := tkB p ls r n) k
      have hb2 : 0 ≤ n * cnB (tkB p ls r n) k := Int.mul_nonneg hn.1 hb.1
      have hb3 : n * cnB (tkB p ls r n) k ≤ 99 * cnB (tkB p ls r n) k := Int.mul_le_mul_of_nonneg_right hn.2 hb.1
      have e1 : wr ((k : Int) + 1) = ((k + 1 : Nat) : Int) := by clear ei; rw [wr_id (by omega) (by omega)]; omega
      have e0 : wr (n * cnB (tkB p ls r n) k + 0) = n * cnB (tkB p ls r n) k := by clear ei e1; rw [wr_id (by omega) (by omega)]; omega
      have e2 : wr (n * cnB (tkB p ls r n) k + n) = n * cnB (tkB p ls r n) k + n := by clear ei e1 e0; rw [wr_id (by omega) (by omega)]
      have hu : cnB (tkB p ls r n) (k + 1) = cnB (tkB p ls r n) k + (if tkB p ls r n k = true then 1 else 0) := rfl
      have hes := eS_rent (p := p) (ls := ls) (t := k) (r := r) (r' := r) (n := n) (z := n) ht5 hr5 hr5
      rw [← hq] at hes
      have yes : ∀ V3, askF V1 V3 → tkB p ls r n k = true → RY d 207 30 [vr 405, vi (r : Int), vi n, vi (rR p r), vi (n * cnB (tkB p ls r n) k + n), vi ((k + 1 : Nat) : Int)] [] V3 D Q := by
        intro V3 hF3 ht
        have := ih (k + 1) V3 (by clear ei e0 e1 e2; omega) hF3
        rw [hu, ht, if_pos rfl, Int.mul_add, Int.mul_one] at this
        exact this
      have no : ∀ V3, askF V1 V3 → tkB p ls r n k = false → RY d 207 30 [vr 405, vi (r : Int), vi n, vi (rR p r), vi (n * cnB (tkB p ls r n) k), vi ((k + 1 : Nat) : Int)] [] V3 D Q := by
        intro V3 hF3 ht
        have := ih (k + 1) V3 (by clear ei e0 e1 e2; omega) hF3
        rw [hu, ht, if_neg (by decide), Int.add_zero] at this
        exact this
      refine u_207_30 ⟨fun hle => ?_, fun _ => ?_⟩
      · rw [hM2.1, q4] at hle; clear ei e0 e1 e2; omega
      · refine m_as hM2 hd (by rw [q4]; exact ht) (by rw [q3]; exact hr) fun V3 e17 e18 hF3 hM3 => ?_
        show RY d 207 48 _ _ V3 D Q
        have e17 : V3 405 17 = eS p ls k r n := by rw [e17]; show eS q ls k r (rR q r) = _; rw [qr]; exact hes.1
        have e18 : V3 405 18 = if rF p ls k r n = true then 1 else 0 := by rw [e18]; show (if rF q ls k r (rR q r) = true then (1 : Int) else 0) = _; rw [qr, hes.2]
        refine u_207_48 ?_
        rw [e17, e18, e0, e1, e2]
        refine ⟨fun hf => ?_, fun hf => ⟨fun hneg => ?_, fun hnn => ?_⟩⟩
        · have hf : rF p ls k r n = true := Classical.byContradiction fun g => hf (if_neg g)
          exact no V3 (hF.tr hF3) (by unfold tkB; rw [hf]; rfl)
        · exact no V3 (hF.tr hF3) (by unfold tkB; rw [decide_eq_false (Int.not_le.mpr hneg), Bool.and_false])
        · have hf : rF p ls k r n = false := by
            cases hx : rF p ls k r n
            · rfl
            · rw [hx] at hf; exact absurd hf (by decide)
          exact yes V3 (hF.tr hF3) (by unfold tkB; rw [hf, decide_eq_true hnn]; rfl)
  have := go (p 4).toNat 0 V1 (by clear ei; omega) (askF.rf hF1.2.2)
  rw [show n * cnB (tkB p ls r n) 0 = 0 from Int.mul_zero n] at this
  exact this
theorem m_dear (hM : MC V p ls) (hB : Bv V) (hd : 30 ≤ d) {r : Nat} (hr : (r : Int) < p 3) (h : ∀ V', dayF V V' → MC V' p ls → Q (.inl (some (vi (dearF p ls r)))) V' D) : RY d 139 0 [vr 405, vi (r : Int), vr 0, vr 0] [] V D Q := by
  refine u_139_0 ?_
  obtain ⟨e, he⟩ : ∃ e : Nat → Int, e = fun n : Nat => earnF p ls r (n : Int) := ⟨_, rfl⟩
  have hd9 : dearF p ls r = ((drT e 99 : Nat) : Int) := by rw [he]; rfl
  rw [hd9] at h
  have drb : ∀ k, drT e k ≤ k := by
    intro k
    induction k with
    | zero => exact Nat.le_refl _
    | succ k ih => unfold drT; split <;> omega
  have go : ∀ (m k : Nat) (V1 : xF), m + k = 99 → dayF V V1 → MC V1 p ls → RY d 139 4 [vr 405, vi (r : Int), vi ((drT e k : Nat) : Int), vi ((k : Int) + 1)] [] V1 D Q := by
    intro m
    induction m with
    | zero =>
      intro k V1 hk hF hM1
      have hk : k = 99 := by omega
      subst hk
      exact u_139_4 ⟨fun _ => h V1 hF hM1, fun hlt => absurd hlt (by decide)⟩
    | succ m ih =>
      intro k V1 hk hF hM1
      have hdk := drb k
      refine u_139_4 ⟨fun hle => by omega, fun _ => ?_⟩
      refine m_earn hM1 hF.2.2 hd hr (by omega) fun V2 hF2 hM2 => ?_
      show RY d 139 16 _ _ V2 D Q
      refine u_139_16 (m_earn hM2 hF2.2.2 hd hr (by omega) fun V3 hF3 hM3 => ?_)
      show RY d 139 22 _ _ V3 D Q
      have e1 : wr ((k : Int) + 1 + 1) = ((k + 1 : Nat) : Int) + 1 := by rw [wr_id (by omega) (by omega)]; omega
      have ek : earnF p ls r ((k : Int) + 1) = e (k + 1) := by rw [he]; rfl
      have ed : earnF p ls r ((drT e k : Nat) : Int) = e (drT e k) := by rw [he]
      rw [ek, ed]
      have := ih (k + 1) V3 (by clear e1; omega) ((hF.tr hF2).tr hF3) hM3
      rw [show drT e (k + 1) = if e (drT e k) < e (k + 1) then k + 1 else drT e k from rfl] at this
      refine u_139_22 ⟨fun hle => ?_, fun hlt => ?_⟩
      · rw [if_neg (Int.not_lt.mpr hle)] at this
        rw [e1]; exact this
      · rw [if_pos hlt] at this
        rw [e1]; exact this
  exact go 99 0 V rfl ⟨Fr.rf, fun _ _ => rfl, hB⟩ hM
theorem ca_earns {r n : Int} (hS : St V 81 p) (hB : V 2 = xback5) (hW : WF p) (hO : LO V D (D.2.1 81) ls) (h : ∀ V' D', Cor V V' → CorD D D' → Q (cRes (aEarns p ls r n)) V' D') : RY d 206 0 [vr 70, vi r, vi n] [] V D Q := by
  unfold aEarns at h
  refine u_206_0 (c_needRoom hS (fun hr => ?_) (fun hn => ⟨rfl, ?_⟩))
  · rw [aIf_y hr] at h
    refine u_206_5 (c_needNumber (fun n1 n2 => ?_) (fun hn => ⟨rfl, ?_⟩))
    · rw [aIf_y ⟨n1, n2⟩] at h
      obtain ⟨r, rfl⟩ : ∃ m : Nat, r = (m : Int) := ⟨r.toNat, by omega⟩
      rw [nn_toNat] at h
      refine u_206_13 (lc_hear_81 hS hB hW hO fun V1 hL1 hF1 => ?_)
      show RY d 206 24 _ _ V1 D Q
      refine u_206_24 (c_earn hL1 hr.2 ⟨n1, n2⟩ fun V2 hF2 => ?_)
      show RY d 206 37 _ _ V2 D Q
      exact u_206_37 (h V2 D ((FLcor hF1).tr (hF2.cor (by decide))) CorD.rf)
    · rw [aIf_n hn] at h
      exact h V _ Cor.rf CorD.exc
  · rw [aIf_n hn] at h
    exact h V _ Cor.rf CorD.exc
theorem dayF.cor {V' : xF} (h : dayF V V') (h6 : V' 406 = V 406) : Cor V V' := h.tri.cor h6
theorem dayF.z {V' : xF} (h : dayF V V') : V' 405 0 = V 405 0 := h.2.1 0 (by omega)
theorem ma_earns {r n : Int} (hM : MC V p ls) (hB : Bv V) (hd : 30 ≤ d) (h : ∀ V', V' 405 0 = mCd 2 (aEarns p ls r n) → Cor V V' → Q (.inl (some (vi (mVal (aEarns p ls r n))))) V' D) : RY d 74 0 [vr 405, vi r, vi n] [] V D Q := by
  unfold aEarns at h
  obtain ⟨hE, hW, hT, hw⟩ := id hM
  refine u_74_0 ⟨yg132, ?_⟩
  rw [yr132 (by rw [hE]; exact hW), hE, yr124]
  by_cases hr : 0 ≤ r ∧ r < p 3
  · rw [if_pos hr]
    rw [aIf_y hr] at h
    refine ⟨fun _ => ?_, fun g => absurd g (by decide)⟩
    by_cases hn : 0 ≤ n ∧ n ≤ 99
    · rw [if_pos hn]
      rw [aIf_y hn] at h
      refine ⟨fun _ => ?_, fun g => absurd g (by decide)⟩
      rintro V1 hV1
      have t0 : V1 405 0 = 0 := by rw [hV1]; exact v405.1
      have C1 : Cor V V1 := by rw [hV1]; exact v405.2.2
      clear hV1
      obtain ⟨r, rfl⟩ : ∃ m : Nat, r = (m : Int) := ⟨r.toNat, by omega⟩
      rw [nn_toNat] at h
      have hM1 := hM.c C1
      refine ⟨fun _ => ?_, fun g => by omega⟩
      refine m_earn hM1 (C1.2.2.2.2.2.2 hB) hd hr.2 hn fun V2 hF2 hM2 => ?_
      show RY d 74 48 _ _ V2 D Q
      exact u_74_48 (h V2 (by rw [hF2.z, t0]; rfl) (C1.tr (hF2.cor (hM2.1.trans hM1.1.symm))))
    · rw [if_neg hn]
      rw [aIf_n hn] at h
      refine ⟨fun g => absurd rfl g, fun _ => ?_⟩
      rintro V1 hV1
      have t0 : V1 405 0 = 2 := by rw [hV1]; exact v405.1
      exact ⟨fun g => by omega, fun _ => h V1 t0 (by rw [hV1]; exact v405.2.2)⟩
  · rw [if_neg hr]
    rw [aIf_n hr] at h
    refine ⟨fun g => absurd rfl g, fun _ => ?_⟩
    rintro V1 hV1
    have t0 : V1 405 0 = 1 := by rw [hV1]; exact v405.1
    exact ⟨fun g => by omega, fun _ => h V1 t0 (by rw [hV1]; exact v405.2.2)⟩
end EARNS
