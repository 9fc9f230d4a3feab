/-! ===== WHICH; THE MIDDLES; ALL PLACES OF A ROOM ===== -/
section MID
variable {d : Nat} {V : xF} {D : yD} {Q : xRes → xF → yD → Prop} {p : Rw}
/-- walls of the images of a time -/
def acV (p : Rw) (r : Nat) (x y w : Int) (z : Int) (q : Int × Int) : Int := if imT p r x y q.1 q.2 = w ∧ 0 < imL p r x y q.1 q.2 then xor_ z (imW q.1 q.2) else z
theorem acV_nat {r : Nat} {x y : Int} {t : Nat} : acV p r x y (t : Int) = acW p r x y t := rfl
theorem acV_out {r : Nat} {x y w : Int} (h : okPl p r x y) (hw : w < 0 ∨ 48 ≤ w) : (ims (p 10)).foldl (acV p r x y w) 0 = 0 := by
  have hb : 1 ≤ p 10 ∧ p 10 ≤ 3 := h.1.2.2.2.2.1
  refine foldl_id _ _ fun q hq z => ?_
  have := im_t (ims_is (h.1.room h.2.1) h.2.2 hb q hq)
  unfold acV
  rw [if_neg (by omega)]
/-- WHICH of a time -/
def whF (p : Rw) (r : Nat) (x y w : Int) : Int := if 0 ≤ w ∧ w ≤ 63 then wallsOf p r x y w.toNat else 0
theorem whF_eq {r : Nat} {x y w : Int} (h : okPl p r x y) : (ims (p 10)).foldl (acV p r x y w) 0 = whF p r x y w := by
  unfold whF
  split
  · obtain ⟨t, rfl⟩ : ∃ t : Nat, w = (t : Int) := ⟨w.toNat, by omega⟩
    rw [nn_toNat]
    rfl
  · exact acV_out h (by omega)
/-- so much of images has been gone through -/
def Sta (p : Rw) (r : Nat) (x y : Int) (V V' : xF) : Prop := Stands p r x y V' ∧ Fr [254] V V'
theorem c_winner {r : Nat} {x y i : Int} {i3 w : Int} (hb10 : V 81 16 = p 10) (hR : rOK p r) (hP : isPl p r x y) (hb : 1 ≤ p 10 ∧ p 10 ≤ 3) (hi : i.natAbs ≤ p 10) :
    ∀ (n : Nat) (j z : Int) (V1 : xF), Stands p r x y V1 → j + n = (p 10 - (i.natAbs : Int)) + 1 → -(p 10 - (i.natAbs : Int)) ≤ j →
      (∀ V', Sta p r x y V1 V' → ∀ u, RY d 266 17 [vr 254, vr 81, vi (r : Int), vi i3, vi w, vi ((((upl j n).filter (fun j => decide (i ≠ 0 ∨ j ≠ 0))).map (fun j => (i, j))).foldl (acV p r x y w) z), vi (wr (i + 1)), vi (p 10 - (i.natAbs : Int)), vi u] [] V' D Q) →
      RY d 266 43 [vr 254, vr 81, vi (r : Int), vi i3, vi w, vi z, vi i, vi (p 10 - (i.natAbs : Int)), vi j] [] V1 D Q := by
  intro n
  induction n with
  | zero =>
    intro j z V1 hV hj hlo h
    refine u_266_43_81 ⟨fun _ => ?_, fun h1 => by omega⟩
    exact h V1 ⟨hV, Fr.rf⟩ j
  | succ n ih =>
    intro j z V1 hV hj hlo h
    have step : ∀ V' z', Sta p r x y V1 V' → z' = (if i ≠ 0 ∨ j ≠ 0 then [(i, j)] else []).foldl (acV p r x y w) z → RY d 266 43 [vr 254, vr 81, vi (r : Int), vi i3, vi w, vi z', vi i, vi (p 10 - (i.natAbs : Int)), vi (wr (j + 1))] [] V' D Q := by
      intro V' z' hA hz
      rw [wr_id (by omega) (by omega)]
      refine ih (j + 1) z' V' hA.1 (by omega) (by omega) ?_
      intro V2 h2 u
      have := h V2 ⟨h2.1, hA.2.tr h2.2⟩ u
      rw [imj_step (b := p 10), List.foldl_append, ← hz] at this
      exact this
    have one : (i ≠ 0 ∨ j ≠ 0) → RY d 289 0 [vr 254, vi i, vi j, vr 0, vr 0] [] V1 D (yback d 266 68 [vr 254, vr 81, vi (r : Int), vi i3, vi w, vi z, vi i, vi (p 10 - (i.natAbs : Int)), vi j] [] Q) := by
      intro h0
      have hI : isIm p r x y i j := ⟨hR.2.1, hR.2.2, hP.1, hP.2, by omega, h0⟩
      have hV' := hV
      obtain ⟨a0, a1, a2, a3, a5, ab⟩ := hV'
      refine c_measure hI a0 a1 a2 a3 a5 ab ?_
      intro W w6 w7 wk wF
      have sW : Sta p r x y V1 W := by
        refine ⟨⟨?_, ?_, ?_, ?_, ?_, fun k hk => by rw [wF.at_ 255 (by decide)]; exact ab k hk⟩, wF⟩
        all_goals (rw [wk _ (by decide) (by decide)]; assumption)
      refine u_266_68_81 ?_
      rw [w6, w7, imW_xor (by omega) (by omega)]
      rw [if_pos h0] at step
      refine ⟨fun h1 => step W _ sW ?_, fun h1 => ⟨fun h2 => step W _ sW ?_, fun h2 => step W _ sW ?_⟩⟩
      · show z = acV p r x y w z (i, j)
        unfold acV
        rw [if_neg (fun h => h1 h.1)]
      · show z = acV p r x y w z (i, j)
        unfold acV
        rw [if_neg (by dsimp only; omega)]
      · show _ = acV p r x y w z (i, j)
        unfold acV
        rw [if_pos ⟨h1, h2⟩]
    refine u_266_43_81 ⟨fun h1 => by omega, fun _ => ⟨fun h1 => one (Or.inl h1), fun h1 => ⟨fun h2 => ?_, fun h2 => one (Or.inr h2)⟩⟩⟩
    refine step V1 z ⟨hV, Fr.rf⟩ ?_
    rw [if_neg (by omega)]
    rfl
theorem c_wallsOf {r : Nat} {x y w : Int} (hS : St V 81 p) (hB : V 2 = xback5) (hW : WF p) (hr : (r : Int) < p 3) (hP : isPl p r x y)
    (h : ∀ V', Fr [254, 255] V V' → Q (.inl (some (vi (whF p r x y w)))) V' D) : RY d 266 0 [vr 254, vr 81, vi (r : Int), vi (16 * x + y), vi w, vr 0, vr 0, vr 0, vr 0] [] V D Q := by
  have hR := hW.room hr
  have hb : 1 ≤ p 10 ∧ p 10 ≤ 3 := hW.2.2.2.2.1
  have s16 : V 81 16 = p 10 := hS.2.2.2.2.2.2.2.2.2.2.2.2.2.2.2.1
  refine u_266_0_81 (c_stand_81 hS hB hW hr hP ?_)
  intro V2 s2 F2
  have e16 : V2 81 16 = p 10 := by rw [F2.at_ 81 (by decide)]; exact s16
  refine u_266_10_81 ?_
  rw [e16, wr_id (by omega) (by omega)]
  have outer : ∀ (n : Nat) (i z : Int) (v7 v8 : xV) (V1 : xF), Stands p r x y V1 → V1 81 16 = p 10 → i + n = p 10 + 1 → -(p 10) ≤ i →
      (∀ V', Fr [254] V1 V' → Q (.inl (some (vi (((upl i n).flatMap (imj (p 10))).foldl (acV p r x y w) z)))) V' D) →
      RY d 266 17 [vr 254, vr 81, vi (r : Int), vi (16 * x + y), vi w, vi z, vi i, v7, v8] [] V1 D Q := by
    intro n
    induction n with
    | zero =>
      intro i z v7 v8 V1 h1 h16 h2 h3 h4
      exact u_266_17_81 ⟨fun _ => h4 V1 Fr.rf, fun h5 => by rw [h16] at h5; omega⟩
    | succ n ih =>
      intro i z v7 v8 V1 h1 h16 h2 h3 h4
      have hi : i.natAbs ≤ p 10 := by omega
      refine u_266_17_81 ⟨fun h5 => by rw [h16] at h5; omega, fun _ => ?_⟩
      rw [h16, yr288 (by omega) (by omega), wr_id (x := p 10 - (i.natAbs : Int)) (by omega) (by omega), wr_id (by omega) (by omega)]
      refine c_winner (V := V1) h16 hR hP hb hi (2 * (p 10 - (i.natAbs : Int)) + 1).toNat _ z V1 h1 (by omega) (by omega) ?_
      intro V' hA u
      rw [wr_id (by omega) (by omega)]
      refine ih (i + 1) _ _ _ V' hA.1 (by rw [hA.2.at_ 81 (by decide)]; exact h16) (by omega) (by omega) ?_
      intro V3 F3
      have := h4 V3 (hA.2.tr F3)
      rw [show upl i (n + 1) = i :: upl (i + 1) n from rfl, List.flatMap_cons, List.foldl_append] at this
      exact this
  refine outer (2 * p 10 + 1).toNat (-(p 10)) 0 _ _ V2 s2 e16 (by omega) (by omega) ?_
  intro V3 F3
  have := h V3 (F2.tr (F3.sub (by decide)))
  rw [← whF_eq ⟨hW, hr, hP⟩] at this
  exact this
noncomputable def aWh (p : Rw) (r x y w : Int) : aRes := @ite _ (plA p r x y) (Classical.propDecidable _) (.inl (whF p r.toNat x y w)) (.inr 2)
theorem ca_which {r x y w : Int} (hS : St V 81 p) (hB : V 2 = xback5) (hW : WF p) (h : ∀ V' D', Cor V V' → CorD D D' → Q (cRes (aWh p r x y w)) V' D') : RY d 179 0 [vr 70, vi r, vi x, vi y, vi w] [] V D Q := by
  refine u_179_0 (c_needPlace hS hW (fun hp => ?_) (fun hp => ⟨rfl, ?_⟩))
  · unfold aWh at h
    rw [if_pos hp] at h
    obtain ⟨hr, hx, hy⟩ := hp
    obtain ⟨r, rfl⟩ : ∃ n : Nat, r = (n : Int) := ⟨r.toNat, by omega⟩
    rw [nn_toNat] at hx hy h
    obtain ⟨-, hw, hd⟩ := hW.room hr.2
    refine u_179_7 ?_
    rw [yr265 (by omega) (by omega)]
    refine c_wallsOf hS hB hW hr.2 ⟨hx, hy⟩ ?_
    intro V' F'
    exact u_179_26 (h V' D (F'.cor (by decide)) CorD.rf)
  · unfold aWh at h
    rw [if_neg hp] at h
    exact h V _ Cor.rf CorD.exc
theorem ma_which {r x y w : Int} (hW : WF (V 406)) (h : ∀ V', V' 405 0 = (match aWh (V 406) r x y w with | .inl _ => 0 | .inr _ => 1) → Cor V V' → Q (.inl (some (vi (mVal (aWh (V 406) r x y w))))) V' D) : RY d 48 0 [vr 405, vi r, vi x, vi y, vi w, vr 0] [] V D Q := by
  unfold aWh at h
  refine u_48_0 (m_arePlaces hW (fun hp V1 t1 C1 F1 => ?_) (fun hp V1 t1 C1 => ?_))
  · rw [if_pos hp] at h
    have e6 : V1 406 = V 406 := C1.at_ 406 rfl
    refine u_48_7 ⟨fun _ => ?_, fun h5 => by omega⟩
    refine m_ask0 (by rw [e6]; exact hW) (by rw [e6]; exact hp) ?_
    rw [e6]
    intro V2 h2 h3 F2
    have C2 : Cor V V2 := C1.tr (F2.cor (by decide))
    have t2 : V2 405 0 = 0 := by rw [F2.at_ 405 (by decide)]; exact t1
    have hq := h V2 t2 C2
    dsimp only [mVal] at hq
    unfold whF at hq
    refine u_48_23 ?_
    rw [yr124]
    refine ⟨fun h4 => ?_, fun h4 => ?_⟩
    · by_cases hc : 0 ≤ w ∧ w ≤ 63
      · rw [if_pos hc] at h4; exact absurd h4 (by decide)
      · rw [if_neg hc] at hq; exact hq
    · by_cases hc : 0 ≤ w ∧ w ≤ 63
      · rw [if_pos hc] at hq
        refine ⟨by omega, ?_⟩
        rw [h3 w.toNat (by omega)]
        exact hq
      · rw [if_neg hc] at h4; exact absurd rfl h4
  · rw [if_neg hp] at h
    refine u_48_7 ⟨fun h5 => by omega, fun _ => h V1 t1 C1⟩
/-! ===== the middles ===== -/
/-- what is heard at the middle of a room -/
def hearM (p : Rw) (r : Nat) : Nat → Int := hearT p r (rW p r / 2) (rD p r / 2)
theorem mid_pl (hW : WF p) {r : Nat} (hr : (r : Int) < p 3) : isPl p r (rW p r / 2) (rD p r / 2) := by
  obtain ⟨-, hw, hd⟩ := hW.room hr
  unfold isPl
  omega
theorem mid_ok (hW : WF p) {r : Nat} (hr : (r : Int) < p 3) : okPl p r (rW p r / 2) (rD p r / 2) := ⟨hW, hr, mid_pl hW hr⟩
theorem yg211_81 {r : Nat} (hr : r < 5) : yg_211_81 (r : Int) V D := by
  unfold yg_211_81
  omega
theorem yr211_81 (hS : St V 81 p) (hW : WF p) {r : Nat} (hr : (r : Int) < p 3) : yr_211_81 (r : Int) V D = 16 * (rW p r / 2) + rD p r / 2 := by
  obtain ⟨hr5, hw, hd⟩ := hW.room hr
  unfold yr_211_81
  rw [nn_toNat, show V 82 r = rW p r from hS.2.1 r hr5, show V 83 r = rD p r from hS.2.2.1 r hr5, tdiv_nn (by omega), tdiv_nn (by omega), wr_id (x := rW p r / 2) (by omega) (by omega), wr_id (x := rD p r / 2) (by omega) (by omega), yr265 (by omega) (by omega)]
theorem c_mid_81 {r q : Nat} (hS : St V 81 p) (hB : V 2 = xback5) (hW : WF p) (hr : (r : Int) < p 3) (hq : isRep q)
    (h : ∀ V', (∀ t, t < 48 → V' q t = hearM p r t) → Fr [254, 255, q] V V' → Q (.inl none) V' D) : RY d 212 0 [vr 254, vr 81, vi (r : Int), vi (yr_211_81 (r : Int) V D), vr q, vr 0, vr 0, vr 0] [] V D Q := by
  rw [yr211_81 hS hW hr]
  exact c_listen_81 hS hB hW hr (mid_pl hW hr) hq fun V' h' => h V' h'.1 h'.2
theorem yg211_92 {r : Nat} (hr : r < 5) : yg_211_92 (r : Int) V D := by
  unfold yg_211_92
  omega
theorem yr211_92 (hS : St V 92 p) (hW : WF p) {r : Nat} (hr : (r : Int) < p 3) : yr_211_92 (r : Int) V D = 16 * (rW p r / 2) + rD p r / 2 := by
  obtain ⟨hr5, hw, hd⟩ := hW.room hr
  unfold yr_211_92
  rw [nn_toNat, show V 93 r = rW p r from hS.2.1 r hr5, show V 94 r = rD p r from hS.2.2.1 r hr5, tdiv_nn (by omega), tdiv_nn (by omega), wr_id (x := rW p r / 2) (by omega) (by omega), wr_id (x := rD p r / 2) (by omega) (by omega), yr265 (by omega) (by omega)]
theorem c_mid_92 {r q : Nat} (hS : St V 92 p) (hB : V 2 = xback5) (hW : WF p) (hr : (r : Int) < p 3) (hq : isRep q)
    (h : ∀ V', (∀ t, t < 48 → V' q t = hearM p r t) → Fr [254, 255, q] V V' → Q (.inl none) V' D) : RY d 212 0 [vr 254, vr 92, vi (r : Int), vi (yr_211_92 (r : Int) V D), vr q, vr 0, vr 0, vr 0] [] V D Q := by
  rw [yr211_92 hS hW hr]
  exact c_listen_92 hS hB hW hr (mid_pl hW hr) hq fun V' h' => h V' h'.1 h'.2
theorem m_mid {r : Nat} (hW : WF (V 406)) (hr : (r : Int) < V 406 3)
    (h : ∀ V', (∀ t, t < 64 → V' 412 t = hearM (V 406) r t) → Fr [412, 413] V V' → Q (.inl (some (vi (cntT (hearM (V 406) r) 64)))) V' D) : RY d 135 0 [vr 405, vi (r : Int)] [] V D Q := by
  obtain ⟨hr5, hw, hd⟩ := hW.room hr
  refine u_135_0 ⟨yg133 hr5 (by omega), yg133 hr5 (by omega), ?_⟩
  rw [yr133_0 hr5, yr133_1 hr5, tdiv_nn (by omega), tdiv_nn (by omega), wr_id (x := rW (V 406) r / 2) (by omega) (by omega), wr_id (x := rD (V 406) r / 2) (by omega) (by omega)]
  exact m_hears hW hr (mid_pl hW hr) fun V' h1 h2 h3 => u_135_21 (h V' h1 h3)
theorem hearM_hi (hW : WF p) {r : Nat} (hr : (r : Int) < p 3) {u : Nat} (hu : 48 ≤ u) : hearM p r u = 0 := hear_hi (mid_ok hW hr) hu
theorem hearM_cnt (hW : WF p) {r : Nat} (hr : (r : Int) < p 3) : cntT (hearM p r) 64 = cntT (hearM p r) 48 := cntT_hi 16 fun u hu => by rw [hearM_hi hW hr hu]; exact Int.le_refl _
/-! ===== sets as bits ===== -/
/-- of k on: those of n of which b holds -/
def bitsT (b : Nat → Bool) : Nat → Int
  | 0 => 0
  | n + 1 => if b n then xor_ (bitsT b n) (xshl 1 (n : Int)) else bitsT b n
def p2 : Nat → Int
  | 0 => 1
  | n + 1 => 2 * p2 n
theorem bit_add {x : Int} {k : Nat} (hk : k < 5) (hx : 0 ≤ x ∧ x < p2 k) : xor_ x (xshl 1 (k : Int)) = x + p2 k := by
  have hall : ∀ k : Fin 5, ∀ x : Fin 16, (x.1 : Int) < p2 k.1 → xor_ (x.1 : Int) (xshl 1 (k.1 : Int)) = (x.1 : Int) + p2 k.1 := by decide +kernel
  have h16 : p2 k ≤ 16 := by
    have : k = 0 ∨ k = 1 ∨ k = 2 ∨ k = 3 ∨ k = 4 := by omega
    rcases this with h | h | h | h | h <;> subst h <;> decide
  have e : ((x.toNat : Nat) : Int) = x := by omega
  have := hall ⟨k, hk⟩ ⟨x.toNat, by omega⟩ (by dsimp only; omega)
  dsimp only at this
  rwa [e] at this
theorem p2_pos : ∀ n, 1 ≤ p2 n
  | 0 => Int.le_refl _
  | n + 1 => by have := p2_pos n; unfold p2; omega
theorem bitsT_nn {b : Nat → Bool} : ∀ {n : Nat}, n ≤ 5 → 0 ≤ bitsT b n ∧ bitsT b n < p2 n
  | 0, _ => ⟨Int.le_refl _, by show (0 : Int) < 1; omega⟩
  | n + 1, hn => by
    have ih := bitsT_nn (b := b) (n := n) (by omega)
    have := p2_pos n
    unfold bitsT p2
    split
    · rw [bit_add (by omega) ih]
      omega
    · omega
theorem xor0 {x : Int} (h : 0 ≤ x ∧ x < 32) : xor_ x 0 = x := by
  have hall : ∀ k : Fin 32, xor_ (k.1 : Int) 0 = (k.1 : Int) := by decide +kernel
  have := hall ⟨x.toNat, by omega⟩
  dsimp only at this
  rwa [show ((x.toNat : Nat) : Int) = x by omega] at this
theorem bitsT_lt {b : Nat → Bool} {n : Nat} (hn : n ≤ 5) : 0 ≤ bitsT b n ∧ bitsT b n < 32 := by
  have := bitsT_nn (b := b) hn
  have h2 : p2 n ≤ 32 := by
    have : n = 0 ∨ n = 1 ∨ n = 2 ∨ n = 3 ∨ n = 4 ∨ n = 5 := by omega
    rcases this with h | h | h | h | h | h <;> subst h <;> decide
  omega
/-- STILL -/
def stillF (p : Rw) : Int := bitsT (fun r => decide (cntT (hearM p r) 64 = 0)) (p 3).toNat
theorem ca_still (hS : St V 81 p) (hB : V 2 = xback5) (hW : WF p) (h : ∀ V', Cor V V' → Q (.inl (some (vi (stillF p)))) V' D) : RY d 79 0 [vr 70, vr 0, vr 0] [] V D Q := by
  have h3 := hW.1
  refine u_79_0 ?_
  have main : ∀ (n k : Nat) (V1 : xF), (k : Int) + n = p 3 → Cor V V1 → RY d 79 4 [vr 70, vi (bitsT (fun r => decide (cntT (hearM p r) 64 = 0)) k), vi (k : Int)] [] V1 D Q := by
    intro n
    induction n with
    | zero =>
      intro k V1 hk C
      have S1 := C.st hS
      have : (p 3).toNat = k := by omega
      unfold stillF at h
      rw [this] at h
      exact u_79_4 ⟨fun _ => h V1 C, fun h5 => by have := S1.1; omega⟩
    | succ n ih =>
      intro k V1 hk C
      have S1 := C.st hS
      have hr : (k : Int) < p 3 := by omega
      refine u_79_4 ⟨fun h5 => by have := S1.1; omega, fun _ => ⟨yg211_81 (by omega), ?_⟩⟩
      refine c_mid_81 S1 (by rw [C.at_ 2 rfl]; exact hB) hW hr (Or.inl rfl) ?_
      intro V2 h2 F2
      refine u_79_39 (c_echoes (Or.inl rfl) h2 ?_)
      have C2 : Cor V V2 := C.tr (F2.cor (by decide))
      have := ih (k + 1) V2 (by omega) C2
      unfold bitsT at this
      rw [hearM_cnt hW hr] at this
      refine u_79_46 ⟨fun h5 => ?_, fun h5 => ?_⟩
      · rw [wr_id (by omega) (by omega)]
        rw [if_neg (by simpa using h5)] at this
        exact this
      · rw [wr_id (by omega) (by omega)]
        rw [if_pos (by simpa using h5)] at this
        exact this
  exact main (p 3).toNat 0 V (by omega) Cor.rf
theorem ma_still (hW : WF (V 406)) (h : ∀ V', V' 405 0 = 0 → Cor V V' → Q (.inl (some (vi (stillF (V 406))))) V' D) : RY d 80 0 [vr 405, vr 0, vr 0] [] V D Q := by
  have h3 := hW.1
  refine u_80_0 ?_
  rintro V0 rfl
  have main : ∀ (n k : Nat) (V1 : xF), (k : Int) + n = V 406 3 → V1 405 0 = 0 → Cor V V1 → RY d 80 9 [vr 405, vi (bitsT (fun r => decide (cntT (hearM (V 406) r) 64 = 0)) k), vi (k : Int)] [] V1 D Q := by
    intro n
    induction n with
    | zero =>
      intro k V1 hk t C
      have e6 : V1 406 = V 406 := C.at_ 406 rfl
      have : (V 406 3).toNat = k := by omega
      unfold stillF at h
      rw [this] at h
      exact u_80_9 ⟨fun _ => h V1 t C, fun h5 => by rw [e6] at h5; omega⟩
    | succ n ih =>
      intro k V1 hk t C
      have e6 : V1 406 = V 406 := C.at_ 406 rfl
      have hr : (k : Int) < V 406 3 := by omega
      refine u_80_9 ⟨fun h5 => by rw [e6] at h5; omega, fun _ => ?_⟩
      refine m_mid (by rw [e6]; exact hW) (by rw [e6]; exact hr) ?_
      rw [e6]
      intro V2 h2 F2
      have C2 : Cor V V2 := C.tr (F2.cor (by decide))
      have t2 : V2 405 0 = 0 := by rw [F2.at_ 405 (by decide)]; exact t
      have := ih (k + 1) V2 (by omega) t2 C2
      unfold bitsT at this
      refine u_80_25 ⟨fun h5 => ?_, fun h5 => ?_⟩
      · rw [wr_id (by omega) (by omega), xor0 (bitsT_lt (by omega))]
        rw [if_neg (by simpa using h5)] at this
        exact this
      · rw [wr_id (by omega) (by omega)]
        rw [if_pos (by simpa using h5)] at this
        exact this
  exact main (V 406 3).toNat 0 _ (by omega) (up2_at _ _ _ _) (Cor.up405 (by decide) (by decide) (by decide) (by decide))
end MID
