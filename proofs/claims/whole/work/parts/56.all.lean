/-! ===== ALL PLACES OF A ROOM ===== -/
def prow (p : Rw) (r : Nat) : Nat := (rD p r - 1).toNat
def pN (p : Rw) (r : Nat) : Nat := (rW p r - 1).toNat * prow p r
def pX (p : Rw) (r n : Nat) : Int := 1 + ((n / prow p r : Nat) : Int)
def pY (p : Rw) (r n : Nat) : Int := 1 + ((n % prow p r : Nat) : Int)
def hP (p : Rw) (r n : Nat) : Nat → Int := hearT p r (pX p r n) (pY p r n)
def plc (p : Rw) (r n : Nat) : Int := 16 * pX p r n + pY p r n
def cntB (b : Nat → Bool) : Nat → Int
  | 0 => 0
  | n + 1 => cntB b n + (if b n then 1 else 0)
theorem cntB_b (b : Nat → Bool) : ∀ n : Nat, 0 ≤ cntB b n ∧ cntB b n ≤ n
  | 0 => ⟨Int.le_refl _, Int.le_refl _⟩
  | n + 1 => by
    have := cntB_b b n
    unfold cntB
    split <;> omega
/-- the first of the greatest, and how great -/
def bst (g : Nat → Int) : Nat → Int × Int
  | 0 => (-1, -1)
  | n + 1 => if (bst g n).2 < g n then ((n : Int), g n) else bst g n
theorem bst_r (g : Nat → Int) : ∀ n : Nat, (bst g n).1 = -1 ∨ (0 ≤ (bst g n).1 ∧ (bst g n).1 < n)
  | 0 => Or.inl rfl
  | n + 1 => by
    have := bst_r g n
    unfold bst
    split
    · right
      dsimp only
      omega
    · omega
section ALLP
variable {d : Nat} {V : xF} {D : yD} {Q : xRes → xF → yD → Prop} {p : Rw}
theorem pl_b (hW : WF p) {r : Nat} (hr : (r : Int) < p 3) : 1 ≤ prow p r ∧ prow p r ≤ 11 ∧ 1 ≤ (rW p r - 1).toNat ∧ (rW p r - 1).toNat ≤ 11 ∧ pN p r ≤ 121 ∧ 1 ≤ pN p r := by
  obtain ⟨-, hw, hd⟩ := hW.room hr
  have h1 : 1 ≤ prow p r ∧ prow p r ≤ 11 := by unfold prow; omega
  have h2 : 1 ≤ (rW p r - 1).toNat ∧ (rW p r - 1).toNat ≤ 11 := by omega
  refine ⟨h1.1, h1.2, h2.1, h2.2, ?_, ?_⟩
  · exact Nat.mul_le_mul h2.2 h1.2
  · exact Nat.mul_le_mul h2.1 h1.1
theorem pl_at (hW : WF p) {r n : Nat} (hr : (r : Int) < p 3) (hn : n < pN p r) : isPl p r (pX p r n) (pY p r n) := by
  obtain ⟨-, hw, hd⟩ := hW.room hr
  have hb := pl_b hW hr
  have h1 : n / prow p r < (rW p r - 1).toNat := by
    rw [Nat.div_lt_iff_lt_mul (by omega)]
    exact hn
  have h2 : n % prow p r < prow p r := Nat.mod_lt _ (by omega)
  have e : (prow p r : Int) = rD p r - 1 := by unfold prow; omega
  unfold isPl pX pY
  generalize n / prow p r = k1 at h1 ⊢
  generalize n % prow p r = k2 at h2 ⊢
  omega
theorem plA_hi (hW : WF p) {r n : Nat} (hr : (r : Int) < p 3) (hn : n < pN p r) {u : Nat} (hu : 48 ≤ u) : hP p r n u = 0 := hear_hi ⟨hW, hr, pl_at hW hr hn⟩ hu
theorem hP_cnt (hW : WF p) {r n : Nat} (hr : (r : Int) < p 3) (hn : n < pN p r) : cntT (hP p r n) 64 = cntT (hP p r n) 48 := cntT_hi 16 fun u hu => by rw [plA_hi hW hr hn hu]; exact Int.le_refl _
/-- the index of a place -/
theorem pl_ix {r a b : Nat} (hb : b < prow p r) : pX p r (b + a * prow p r) = 1 + (a : Int) ∧ pY p r (b + a * prow p r) = 1 + (b : Int) := by
  unfold pX pY
  rw [Nat.add_mul_div_right _ _ (by omega), Nat.add_mul_mod_self_right, Nat.div_eq_of_lt hb, Nat.mod_eq_of_lt hb]
  omega
theorem yg314 {r : Nat} (hr : r < 5) : yg_314_81 (r : Int) V D := by
  unfold yg_314_81
  omega
theorem yr314 (hS : St V 81 p) (hW : WF p) {r : Nat} (hr : (r : Int) < p 3) : yr_314_81 (r : Int) V D = (pN p r : Int) := by
  obtain ⟨hr5, hw, hd⟩ := hW.room hr
  have hb := pl_b hW hr
  unfold yr_314_81
  rw [nn_toNat, show V 82 r = rW p r from hS.2.1 r hr5, show V 83 r = rD p r from hS.2.2.1 r hr5, wr_id (x := rW p r - 1) (by omega) (by omega), wr_id (x := rD p r - 1) (by omega) (by omega)]
  have e : (rW p r - 1) * (rD p r - 1) = (pN p r : Int) := by
    unfold pN prow
    rw [Int.natCast_mul, Int.toNat_of_nonneg (by omega), Int.toNat_of_nonneg (by omega)]
  rw [e, wr_id (by omega) (by omega)]
  unfold yr_291
  split <;> omega
theorem yr315 (hS : St V 81 p) (hW : WF p) {r n : Nat} (hr : (r : Int) < p 3) (hn : n < pN p r) : yg_315_81 (r : Int) (n : Int) V D ∧ yr_315_81 (r : Int) (n : Int) V D = plc p r n := by
  obtain ⟨hr5, hw, hd⟩ := hW.room hr
  have hb := pl_b hW hr
  have hp := pl_at hW hr hn
  have e1 : V 83 r = rD p r := hS.2.2.1 r hr5
  have e2 : yr_292 1 (wr (V 83 r - 1)) V D = (prow p r : Int) := by
    rw [e1, wr_id (by omega) (by omega)]
    unfold yr_292 prow
    split <;> omega
  unfold yg_315_81 yr_315_81
  rw [nn_toNat, e2]
  refine ⟨⟨by omega, by omega, by omega⟩, ?_⟩
  rw [tdiv_nn (by omega), tmod_nn (by omega), ← Int.natCast_ediv, ← Int.natCast_emod]
  unfold plc pX pY
  have h1 : n / prow p r ≤ n := Nat.div_le_self _ _
  have h2 : n % prow p r ≤ n := Nat.mod_le _ _
  generalize n / prow p r = k1 at h1 ⊢
  generalize n % prow p r = k2 at h2 ⊢
  rw [wr_id (x := (k1 : Int)) (by omega) (by omega), wr_id (by omega) (by omega), wr_id (by omega) (by omega), yr265 (by omega) (by omega)]
theorem yR257 {n : Nat} (hn : n < 121) : yR D.2.1 D.2.2.1 257 n = 258 + n := by
  have e : Nat.blt n 121 = true := Nat.ble_eq_true_of_le hn
  have h11 : yst 257 = false := by decide +kernel
  have hc : ∀ b : Bool, (match b, false with | true, true => D.2.1 257 | _, _ => yR0 257 n) = yR0 257 n := fun b => by cases b <;> rfl
  show (match Nat.beq n 11, yst 257 with | true, true => D.2.1 257 | _, _ => yR0 257 n) = _
  rw [h11, hc]
  show (match Nat.blt n 121 with | true => 258 + n | false => 0) = _
  rw [e]
theorem K257 : 24 ≤ (yK D.2.2.1 257).1 ∧ (yK D.2.2.1 257).1 ≤ 25 := ⟨Nat.le_of_ble_eq_true rfl, Nat.le_of_ble_eq_true rfl⟩
/-- all places have been heard -/
def heardAll (p : Rw) (r : Nat) (V' : xF) : Prop := ∀ n, n < pN p r → ∀ t, t < 48 → V' (258 + n) t = hP p r n t
abbrev aLR : List Nat := 254 :: 255 :: List.range' 258 121
theorem aLR_cor {V V' : xF} (h : Fr aLR V V') : Cor V V' := h.cor (by decide +kernel)
theorem c_hearAll {r : Nat} (hS : St V 81 p) (hB : V 2 = xback5) (hW : WF p) (hr : (r : Int) < p 3) (h : ∀ V', heardAll p r V' → Fr aLR V V' → Q (.inl none) V' D) : RY d 313 0 [vr 256, vr 81, vi (r : Int), vr 0] [] V D Q := by
  have hb := pl_b hW hr
  have hr5 := (hW.room hr).1
  refine u_313_0_81 ?_
  have main : ∀ (m n : Nat) (V1 : xF), n + m = pN p r → (∀ k, k < n → ∀ t, t < 48 → V1 (258 + k) t = hP p r k t) → Fr aLR V V1 → RY d 313 2 [vr 256, vr 81, vi (r : Int), vi (n : Int)] [] V1 D Q := by
    intro m
    induction m with
    | zero =>
      intro n V1 hn h1 F
      have S1 := (aLR_cor F).st hS
      refine u_313_2_81 ⟨yg314 hr5, ?_⟩
      rw [yr314 S1 hW hr]
      exact ⟨fun _ => h V1 (fun k hk => h1 k (by omega)) F, fun h5 => by omega⟩
    | succ m ih =>
      intro n V1 hn h1 F
      have S1 := (aLR_cor F).st hS
      have hn' : n < pN p r := by omega
      refine u_313_2_81 ⟨yg314 hr5, ?_⟩
      rw [yr314 S1 hW hr, nn_toNat, yR257 (by omega), (yr315 S1 hW hr hn').2]
      refine ⟨fun h5 => by omega, fun _ => ⟨(yr315 S1 hW hr hn').1, K257, ⟨by omega, by omega⟩, by omega, ?_⟩⟩
      rintro q rfl
      refine c_listen_81 S1 (by rw [(aLR_cor F).at_ 2 rfl]; exact hB) hW hr (pl_at hW hr hn') (Or.inr (Or.inr (Or.inl ⟨by omega, by omega⟩))) ?_
      intro V2 h2
      refine u_313_32_81 ?_
      rw [wr_id (by omega) (by omega)]
      refine ih (n + 1) V2 (by omega) ?_ (F.tr (h2.2.sub ?_))
      · intro k hk t ht
        by_cases e : k = n
        · subst e
          exact h2.1 t ht
        · rw [h2.2.at_ (258 + k) (by simp; omega)]
          exact h1 k (by omega) t ht
      · intro a ha
        simp only [List.mem_cons, List.not_mem_nil, or_false] at ha
        simp only [List.mem_cons, List.mem_range'_1]
        omega
  exact main (pN p r) 0 V (by omega) (fun k hk => by omega) Fr.rf
def muteF (p : Rw) (r : Nat) : Int := cntB (fun n => decide (cntT (hP p r n) 64 = 0)) (pN p r)
theorem c_mute {r : Nat} (hS : St V 81 p) (hB : V 2 = xback5) (hW : WF p) (hr : (r : Int) < p 3) (h : ∀ V', Cor V V' → Q (.inl (some (vi (muteF p r)))) V' D) : RY d 237 0 [vr 256, vr 81, vi (r : Int), vr 0, vr 0] [] V D Q := by
  have hb := pl_b hW hr
  have hr5 := (hW.room hr).1
  refine u_237_0_81 (c_hearAll hS hB hW hr ?_)
  intro V1 hA F
  have C := aLR_cor F
  have S1 := C.st hS
  have hq := h V1 C
  refine u_237_8_81 ?_
  have main : ∀ (m n : Nat), n + m = pN p r → RY d 237 11 [vr 256, vr 81, vi (r : Int), vi (cntB (fun n => decide (cntT (hP p r n) 64 = 0)) n), vi (n : Int)] [] V1 D Q := by
    intro m
    induction m with
    | zero =>
      intro n hn
      have : n = pN p r := by omega
      subst this
      refine u_237_11_81 ⟨yg314 hr5, ?_⟩
      rw [yr314 S1 hW hr]
      exact ⟨fun _ => hq, fun h5 => by omega⟩
    | succ m ih =>
      intro n hn
      have hn' : n < pN p r := by omega
      have hc := cntB_b (fun n => decide (cntT (hP p r n) 64 = 0)) n
      have := ih (n + 1) (by omega)
      unfold cntB at this
      rw [hP_cnt hW hr hn'] at this
      refine u_237_11_81 ⟨yg314 hr5, ?_⟩
      rw [yr314 S1 hW hr, nn_toNat, yR257 (by omega)]
      refine ⟨fun h5 => by omega, fun _ => ⟨K257, ⟨by omega, by omega⟩, by omega, ?_⟩⟩
      rintro q rfl
      refine c_echoes (Or.inr (Or.inr (Or.inl ⟨by omega, by omega⟩))) (hA n hn') ?_
      refine u_237_31_81 ?_
      rw [wr_id (x := (n : Int) + 1) (by omega) (by omega), wr_id (by omega) (by omega)]
      refine ⟨fun h5 => ?_, fun h5 => ?_⟩
      · rw [if_neg (by simpa using h5), Int.add_zero] at this
        exact this
      · rw [if_pos (by simpa using h5)] at this
        exact this
  exact main (pN p r) 0 (by omega)
def dinI (p : Rw) (r : Nat) : Int := (bst (fun n => cntT (hP p r n) 64) (pN p r)).1
def plcI (p : Rw) (r : Nat) (k : Int) : Int := if k = -1 then -1 else plc p r k.toNat
def dinF (p : Rw) (r : Nat) : Int := plcI p r (dinI p r)
theorem c_din {r : Nat} (hS : St V 81 p) (hB : V 2 = xback5) (hW : WF p) (hr : (r : Int) < p 3) (h : ∀ V', Cor V V' → Q (.inl (some (vi (dinF p r)))) V' D) : RY d 238 0 [vr 256, vr 81, vi (r : Int), vr 0, vr 0, vr 0, vr 0] [] V D Q := by
  have hb := pl_b hW hr
  have hr5 := (hW.room hr).1
  refine u_238_0_81 (c_hearAll hS hB hW hr ?_)
  intro V1 hA F
  have C := aLR_cor F
  have S1 := C.st hS
  have hq := h V1 C
  refine u_238_11_81 ?_
  have main : ∀ (m n : Nat) (v6 : xV), n + m = pN p r → RY d 238 14 [vr 256, vr 81, vi (r : Int), vi (plcI p r (bst (fun n => cntT (hP p r n) 64) n).1), vi (bst (fun n => cntT (hP p r n) 64) n).2, vi (n : Int), v6] [] V1 D Q := by
    intro m
    induction m with
    | zero =>
      intro n v6 hn
      have : n = pN p r := by omega
      subst this
      refine u_238_14_81 ⟨yg314 hr5, ?_⟩
      rw [yr314 S1 hW hr]
      exact ⟨fun _ => hq, fun h5 => by omega⟩
    | succ m ih =>
      intro n v6 hn
      have hn' : n < pN p r := by omega
      have ih' := fun v => ih (n + 1) v (by omega)
      unfold bst at ih'
      refine u_238_14_81 ⟨yg314 hr5, ?_⟩
      rw [yr314 S1 hW hr, nn_toNat, yR257 (by omega)]
      refine ⟨fun h5 => by omega, fun _ => ⟨K257, ⟨by omega, by omega⟩, by omega, ?_⟩⟩
      rintro q rfl
      refine c_echoes (Or.inr (Or.inr (Or.inl ⟨by omega, by omega⟩))) (hA n hn') ?_
      rw [← hP_cnt hW hr hn']
      refine u_238_34_81 ?_
      rw [wr_id (x := (n : Int) + 1) (by omega) (by omega), (yr315 S1 hW hr hn').2]
      refine ⟨fun h5 => ?_, fun h5 => ⟨(yr315 S1 hW hr hn').1, ?_⟩⟩
      · rw [if_neg (by omega)] at ih'
        exact ih' _
      · rw [if_pos h5] at ih'
        dsimp only [plcI] at ih'
        rw [if_neg (by omega), nn_toNat] at ih'
        exact ih' _
  exact main (pN p r) 0 _ (by omega)
/-! ===== the model's ===== -/
theorem m_mute {r : Nat} (hW : WF (V 406)) (hr : (r : Int) < V 406 3) (h : ∀ V', Fr [412, 413] V V' → Q (.inl (some (vi (muteF (V 406) r)))) V' D) : RY d 136 0 [vr 405, vi (r : Int), vr 0, vr 0, vr 0] [] V D Q := by
  have hb := pl_b hW hr
  obtain ⟨hr5, hw, hd⟩ := hW.room hr
  have ep : (prow (V 406) r : Int) = rD (V 406) r - 1 := by unfold prow; omega
  refine u_136_0 ?_
  obtain ⟨g, hg⟩ : ∃ g, g = fun n => decide (cntT (hP (V 406) r n) 64 = 0) := ⟨_, rfl⟩
  have inner : ∀ (m a b : Nat) (V1 : xF), b + m = prow (V 406) r → a < (rW (V 406) r - 1).toNat → Fr [412, 413] V V1 →
      (∀ V2 v, Fr [412, 413] V V2 → RY d 136 4 [vr 405, vi (r : Int), vi (cntB g ((a + 1) * prow (V 406) r)), vi (((a + 2 : Nat)) : Int), v] [] V2 D Q) →
      RY d 136 17 [vr 405, vi (r : Int), vi (cntB g (b + a * prow (V 406) r)), vi (((a + 1 : Nat)) : Int), vi (((b + 1 : Nat)) : Int)] [] V1 D Q := by
    intro m
    induction m with
    | zero =>
      intro a b V1 hm ha F hk
      have e6 : V1 406 = V 406 := F.at_ 406 (by decide)
      refine u_136_17 ⟨yg133 hr5 (by omega), ?_⟩
      rw [yr133_1 hr5, e6, wr_id (by omega) (by omega)]
      have hb' : b = prow (V 406) r := by omega
      refine ⟨fun _ => ?_, fun h5 => by omega⟩
      have := hk V1 (vi (((b + 1 : Nat)) : Int)) F
      rw [show (a + 1) * prow (V 406) r = b + a * prow (V 406) r by rw [Nat.succ_mul, hb']; omega] at this
      rw [show (((a + 1 : Nat)) : Int) + 1 = ((a + 2 : Nat) : Int) by omega]
      exact this
    | succ m ih =>
      intro a b V1 hm ha F hk
      have e6 : V1 406 = V 406 := F.at_ 406 (by decide)
      have hix := pl_ix (p := V 406) (r := r) (a := a) (b := b) (by omega)
      refine u_136_17 ⟨yg133 hr5 (by omega), ?_⟩
      rw [yr133_1 hr5, e6]
      refine ⟨fun h5 => by omega, fun _ => ?_⟩
      refine m_hears (by rw [e6]; exact hW) (by rw [e6]; exact hr) (by rw [e6]; unfold isPl; omega) ?_
      rw [e6]
      intro V2 h2 h3 F2
      have eh : hearT (V 406) r (((a + 1 : Nat)) : Int) (((b + 1 : Nat)) : Int) = hP (V 406) r (b + a * prow (V 406) r) := by
        unfold hP
        rw [hix.1, hix.2, show (((a + 1 : Nat)) : Int) = 1 + (a : Int) by omega, show (((b + 1 : Nat)) : Int) = 1 + (b : Int) by omega]
      have := ih a (b + 1) V2 (by omega) ha (F.tr F2) hk
      rw [show b + 1 + a * prow (V 406) r = (b + a * prow (V 406) r) + 1 by omega] at this
      unfold cntB at this
      rw [show g (b + a * prow (V 406) r) = decide (cntT (hP (V 406) r (b + a * prow (V 406) r)) 64 = 0) by rw [hg]] at this
      have hc := cntB_b g (b + a * prow (V 406) r)
      have hle : a * prow (V 406) r ≤ 11 * 11 := Nat.mul_le_mul (by omega) (by omega)
      refine u_136_37 ?_
      rw [eh, wr_id (x := cntB g (b + a * prow (V 406) r) + 0) (by omega) (by omega), wr_id (x := cntB g (b + a * prow (V 406) r) + 1) (by omega) (by omega), wr_id (by omega) (by omega)]
      rw [show (((b + 1 : Nat)) : Int) + 1 = ((b + 1 + 1 : Nat) : Int) by omega]
      refine ⟨fun h5 => ?_, fun h5 => ?_⟩
      · rw [if_neg (by simpa using h5)] at this
        exact this
      · rw [if_pos (by simpa using h5)] at this
        exact this
  have outer : ∀ (m a : Nat) (V1 : xF) (v : xV), a + m = (rW (V 406) r - 1).toNat → Fr [412, 413] V V1 → RY d 136 4 [vr 405, vi (r : Int), vi (cntB g (a * prow (V 406) r)), vi (((a + 1 : Nat)) : Int), v] [] V1 D Q := by
    intro m
    induction m with
    | zero =>
      intro a V1 v hm F
      have e6 : V1 406 = V 406 := F.at_ 406 (by decide)
      refine u_136_4 ⟨yg133 hr5 (by omega), ?_⟩
      rw [yr133_0 hr5, e6]
      refine ⟨fun _ => ?_, fun h5 => by omega⟩
      have := h V1 F
      unfold muteF pN at this
      rw [← hg, ← show a = (rW (V 406) r - 1).toNat by omega] at this
      exact this
    | succ m ih =>
      intro a V1 v hm F
      have e6 : V1 406 = V 406 := F.at_ 406 (by decide)
      refine u_136_4 ⟨yg133 hr5 (by omega), ?_⟩
      rw [yr133_0 hr5, e6]
      refine ⟨fun h5 => by omega, fun _ => ?_⟩
      have := inner (prow (V 406) r) a 0 V1 (by omega) (by omega) F (fun V2 v F2 => ih (a + 1) V2 v (by omega) F2)
      rw [Nat.zero_add] at this
      exact this
  have := outer (rW (V 406) r - 1).toNat 0 V (vr 0) (by omega) Fr.rf
  rw [Nat.zero_mul] at this
  exact this
theorem m_din {r : Nat} (hW : WF (V 406)) (hr : (r : Int) < V 406 3) (h : ∀ V', Fr [412, 413] V V' → Q (.inl (some (vi (dinF (V 406) r)))) V' D) : RY d 137 0 [vr 405, vi (r : Int), vr 0, vr 0, vr 0, vr 0, vr 0] [] V D Q := by
  have hb := pl_b hW hr
  obtain ⟨hr5, hw, hd⟩ := hW.room hr
  have ep : (prow (V 406) r : Int) = rD (V 406) r - 1 := by unfold prow; omega
  refine u_137_0 ?_
  obtain ⟨g, hg⟩ : ∃ g, g = bst (fun n => cntT (hP (V 406) r n) 64) := ⟨_, rfl⟩
  have inner : ∀ (m a b : Nat) (V1 : xF) (v6 : xV), b + m = prow (V 406) r → a < (rW (V 406) r - 1).toNat → Fr [412, 413] V V1 →
      (∀ V2 v v', Fr [412, 413] V V2 → RY d 137 7 [vr 405, vi (r : Int), vi (plcI (V 406) r (g ((a + 1) * prow (V 406) r)).1), vi (g ((a + 1) * prow (V 406) r)).2, vi (((a + 2 : Nat)) : Int), v, v'] [] V2 D Q) →
      RY d 137 21 [vr 405, vi (r : Int), vi (plcI (V 406) r (g (b + a * prow (V 406) r)).1), vi (g (b + a * prow (V 406) r)).2, vi (((a + 1 : Nat)) : Int), vi (((b + 1 : Nat)) : Int), v6] [] V1 D Q := by
    intro m
    induction m with
    | zero =>
      intro a b V1 v6 hm ha F hk
      have e6 : V1 406 = V 406 := F.at_ 406 (by decide)
      refine u_137_21 ⟨yg133 hr5 (by omega), ?_⟩
      rw [yr133_1 hr5, e6, wr_id (by omega) (by omega)]
      have hb' : b = prow (V 406) r := by omega
      refine ⟨fun _ => ?_, fun h5 => by omega⟩
      have := hk V1 (vi (((b + 1 : Nat)) : Int)) v6 F
      rw [show (a + 1) * prow (V 406) r = b + a * prow (V 406) r by rw [Nat.succ_mul, hb']; omega] at this
      rw [show (((a + 1 : Nat)) : Int) + 1 = ((a + 2 : Nat) : Int) by omega]
      exact this
    | succ m ih =>
      intro a b V1 v6 hm ha F hk
      have e6 : V1 406 = V 406 := F.at_ 406 (by decide)
      have hix := pl_ix (p := V 406) (r := r) (a := a) (b := b) (by omega)
      refine u_137_21 ⟨yg133 hr5 (by omega), ?_⟩
      rw [yr133_1 hr5, e6]
      refine ⟨fun h5 => by omega, fun _ => ?_⟩
      refine m_hears (by rw [e6]; exact hW) (by rw [e6]; exact hr) (by rw [e6]; unfold isPl; omega) ?_
      rw [e6]
      intro V2 h2 h3 F2
      have eh : hearT (V 406) r (((a + 1 : Nat)) : Int) (((b + 1 : Nat)) : Int) = hP (V 406) r (b + a * prow (V 406) r) := by
        unfold hP
        rw [hix.1, hix.2, show (((a + 1 : Nat)) : Int) = 1 + (a : Int) by omega, show (((b + 1 : Nat)) : Int) = 1 + (b : Int) by omega]
      have := fun v => ih a (b + 1) V2 v (by omega) ha (F.tr F2) hk
      rw [show b + 1 + a * prow (V 406) r = (b + a * prow (V 406) r) + 1 by omega, show g (b + a * prow (V 406) r + 1) = (if (g (b + a * prow (V 406) r)).2 < cntT (hP (V 406) r (b + a * prow (V 406) r)) 64 then (((b + a * prow (V 406) r : Nat) : Int), cntT (hP (V 406) r (b + a * prow (V 406) r)) 64) else g (b + a * prow (V 406) r)) by rw [hg]; rfl] at this
      refine u_137_41 ?_
      rw [eh, wr_id (x := 16 * (((a + 1 : Nat)) : Int)) (by omega) (by omega), wr_id (x := 16 * (((a + 1 : Nat)) : Int) + (((b + 1 : Nat)) : Int)) (by omega) (by omega), wr_id (by omega) (by omega)]
      rw [show (((b + 1 : Nat)) : Int) + 1 = ((b + 1 + 1 : Nat) : Int) by omega]
      refine ⟨fun h5 => ?_, fun h5 => ?_⟩
      · rw [if_pos h5] at this
        dsimp only [plcI] at this
        rw [if_neg (by omega), nn_toNat] at this
        unfold plc at this
        rw [hix.1, hix.2] at this
        rw [show 16 * (((a + 1 : Nat)) : Int) + (((b + 1 : Nat)) : Int) = 16 * (1 + (a : Int)) + (1 + (b : Int)) by omega]
        exact this _
      · rw [if_neg (by omega)] at this
        exact this _
  have outer : ∀ (m a : Nat) (V1 : xF) (v v' : xV), a + m = (rW (V 406) r - 1).toNat → Fr [412, 413] V V1 → RY d 137 7 [vr 405, vi (r : Int), vi (plcI (V 406) r (g (a * prow (V 406) r)).1), vi (g (a * prow (V 406) r)).2, vi (((a + 1 : Nat)) : Int), v, v'] [] V1 D Q := by
    intro m
    induction m with
    | zero =>
      intro a V1 v v' hm F
      have e6 : V1 406 = V 406 := F.at_ 406 (by decide)
      refine u_137_7 ⟨yg133 hr5 (by omega), ?_⟩
      rw [yr133_0 hr5, e6]
      refine ⟨fun _ => ?_, fun h5 => by omega⟩
      have := h V1 F
      unfold dinF dinI pN at this
      rw [← hg, ← show a = (rW (V 406) r - 1).toNat by omega] at this
      exact this
    | succ m ih =>
      intro a V1 v v' hm F
      have e6 : V1 406 = V 406 := F.at_ 406 (by decide)
      refine u_137_7 ⟨yg133 hr5 (by omega), ?_⟩
      rw [yr133_0 hr5, e6]
      refine ⟨fun h5 => by omega, fun _ => ?_⟩
      have := inner (prow (V 406) r) a 0 V1 v' (by omega) (by omega) F (fun V2 v v' F2 => ih (a + 1) V2 v v' (by omega) F2)
      rw [Nat.zero_add] at this
      exact this
  have := outer (rW (V 406) r - 1).toNat 0 V (vr 0) (vr 0) (by omega) Fr.rf
  rw [Nat.zero_mul, show g 0 = (-1, -1) by rw [hg]; rfl] at this
  exact this
end ALLP
