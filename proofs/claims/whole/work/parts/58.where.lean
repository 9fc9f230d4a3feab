/-! ===== WHERE ONE MAY STAND; WHICH ROOMS FIT ===== -/
def plN (p : Rw) (r n : Nat) : Nat := (plc p r n).toNat
/-- the first of n of which it holds; none -/
def fstB (g : Nat → Bool) : Nat → Int
  | 0 => -1
  | n + 1 => if fstB g n = -1 then (if g n then (n : Int) else -1) else fstB g n
theorem fstB_spec (g : Nat → Bool) : ∀ n : Nat, (fstB g n = -1 ∧ ∀ i, i < n → g i = false) ∨ ∃ m : Nat, fstB g n = (m : Int) ∧ m < n ∧ g m = true ∧ ∀ i, i < m → g i = false
  | 0 => Or.inl ⟨rfl, fun i h => by omega⟩
  | n + 1 => by
    unfold fstB
    rcases fstB_spec g n with ⟨a, b⟩ | ⟨m, a, b, c, e⟩
    · rw [if_pos a]
      cases hg : g n with
      | false =>
        refine Or.inl ⟨rfl, fun i hi => ?_⟩
        by_cases e : i = n
        · subst e; exact hg
        · exact b i (by omega)
      | true => exact Or.inr ⟨n, rfl, by omega, hg, b⟩
    · rw [if_neg (by omega)]
      exact Or.inr ⟨m, a, by omega, c, e⟩
section WHERE
variable {d : Nat} {V : xF} {D : yD} {Q : xRes → xF → yD → Prop} {p : Rw} {b : Nat → Int}
theorem plN_is (hW : WF p) {r n : Nat} (hr : (r : Int) < p 3) (hn : n < pN p r) : plc p r n = (plN p r n : Int) ∧ plN p r n < 192 ∧ plN p r n / 16 = n / prow p r + 1 ∧ plN p r n % 16 = n % prow p r + 1 := by
  obtain ⟨-, hw, hd⟩ := hW.room hr
  have hp := pl_at hW hr hn
  have hb := pl_b hW hr
  have h2 : n % prow p r < prow p r := Nat.mod_lt _ (by omega)
  unfold plN plc
  unfold isPl at hp
  unfold pX pY at hp ⊢
  generalize n / prow p r = k1 at hp h2 ⊢
  generalize n % prow p r = k2 at hp h2 ⊢
  omega
theorem plN_mono (hW : WF p) {r i j : Nat} (hr : (r : Int) < p 3) (hj : j < pN p r) (hij : i < j) : plN p r i < plN p r j := by
  have hb := pl_b hW hr
  have a := plN_is hW hr (n := i) (by omega)
  have c := plN_is hW hr hj
  have h1 : i / prow p r ≤ j / prow p r := Nat.div_le_div_right (by omega)
  have e1 := Nat.div_add_mod i (prow p r)
  have e2 := Nat.div_add_mod j (prow p r)
  by_cases h : i / prow p r = j / prow p r
  · rw [h] at e1
    omega
  · have h3 := Nat.mod_lt i (show prow p r > 0 by omega)
    omega
/-- which places fit -/
def fitP (p : Rw) (r : Nat) (b : Nat → Int) (m : Nat) (n : Nat) : Bool := fitB b (hP p r n) m
def whereF (p : Rw) (r : Nat) (b : Nat → Int) (m : Nat) (least : Int) : Int := if least = 0 then cntB (fitP p r b m) (pN p r) else plcI p r (fstB (fitP p r b m) (pN p r))
theorem c_fitting {r m : Nat} {l : Int} (hS : St V 81 p) (hB : V 2 = xback5) (hW : WF p) (hr : (r : Int) < p 3) (hT : Told b m D.1) (hb : ∀ j, j < m → 1 ≤ b (2 * j) ∧ b (2 * j) ≤ 63)
    (h : ∀ V', Cor V V' → Q (.inl (some (vi (whereF p r b m l)))) V' D) : RY d 269 0 [vr 256, vr 81, vi (r : Int), vr 76, vi l, vr 0, vr 0] [] V D Q := by
  have hb' := pl_b hW hr
  have hr5 := (hW.room hr).1
  refine u_269_0_81 (c_hearAll hS hB hW hr ?_)
  intro V1 hA F
  have C := aLR_cor F
  have S1 := C.st hS
  have hq := h V1 C
  unfold whereF at hq
  refine u_269_9_81 ?_
  have main : ∀ (k n : Nat), n + k = pN p r → (l ≠ 0 → ∀ i, i < n → fitP p r b m i = false) → RY d 269 12 [vr 256, vr 81, vi (r : Int), vr 76, vi l, vi (cntB (fitP p r b m) n), vi (n : Int)] [] V1 D Q := by
    intro k
    induction k with
    | zero =>
      intro n hn hl
      have : n = pN p r := by omega
      subst this
      refine u_269_12_81 ⟨yg314 hr5, ?_⟩
      rw [yr314 S1 hW hr]
      refine ⟨fun _ => ⟨fun h5 => ?_, fun h5 => ?_⟩, fun h5 => by omega⟩
      · rw [if_pos h5] at hq
        exact hq
      · rw [if_neg h5] at hq
        rcases fstB_spec (fitP p r b m) (pN p r) with ⟨x, -⟩ | ⟨i, x, y, z, -⟩
        · rw [x] at hq
          exact hq
        · rw [hl h5 i y] at z
          cases z
    | succ k ih =>
      intro n hn hl
      have hn' : n < pN p r := by omega
      have hc := cntB_b (fitP p r b m) n
      have ih' := ih (n + 1) (by omega)
      unfold cntB at ih'
      refine u_269_12_81 ⟨yg314 hr5, ?_⟩
      rw [yr314 S1 hW hr, nn_toNat, yR257 (by omega)]
      refine ⟨fun h5 => by omega, fun _ => ⟨K257, ⟨by omega, by omega⟩, by omega, ?_⟩⟩
      rintro q rfl
      refine c_rowsFit (f := hP p r n) (Or.inr (Or.inr (Or.inl ⟨by omega, by omega⟩))) (hA n hn') (fun t ht => by rw [plA_hi hW hr hn' ht]; exact Int.le_refl _) hT hb ?_
      refine u_269_33_81 ?_
      rw [wr_id (x := (n : Int) + 1) (by omega) (by omega), wr_id (x := cntB (fitP p r b m) n + 1) (by omega) (by omega), (yr315 S1 hW hr hn').2]
      cases hg : fitB b (hP p r n) m with
      | false =>
        have hg' : fitP p r b m n = false := hg
        rw [hg', if_neg (by decide), Int.add_zero] at ih'
        refine ⟨fun _ => ih' ?_, fun h5 => absurd rfl h5⟩
        intro hl0 i hi
        by_cases e : i = n
        · subst e; exact hg'
        · exact hl hl0 i (by omega)
      | true =>
        have hg' : fitP p r b m n = true := hg
        rw [hg', if_pos rfl] at ih'
        refine ⟨fun h5 => absurd h5 (by decide), fun _ => ⟨fun h6 => ih' (fun h7 => absurd h6 h7), fun h6 => ⟨(yr315 S1 hW hr hn').1, ?_⟩⟩⟩
        rw [if_neg h6] at hq
        rcases fstB_spec (fitP p r b m) (pN p r) with ⟨x, y⟩ | ⟨i, x, y, z, w⟩
        · rw [y n hn'] at hg'
          cases hg'
        · have : i = n := by
            rcases Nat.lt_trichotomy i n with e | e | e
            · rw [hl h6 i e] at z; cases z
            · exact e
            · rw [w n e] at hg'; cases hg'
          subst this
          rw [x] at hq
          unfold plcI at hq
          rw [if_neg (by omega), nn_toNat] at hq
          exact hq
  exact main (pN p r) 0 (by omega) (fun _ i hi => by omega)
/-- what a call may throw that uses the tape up -/
noncomputable def aTp (p : Rw) (r n : Int) (b : Nat → Int) (F : Nat → Int) : aRes := @ite _ (0 ≤ r ∧ r < p 3) (Classical.propDecidable _) (@ite _ (okRows b n) (Classical.propDecidable _) (.inl (F r.toNat)) (.inr 0)) (.inr 2)
/-- the tape of both -/
def Tp (V : xF) (b : Nat → Int) (n : Int) : Prop := (∀ k, k < 400 → V 77 k = b k) ∧ (∀ k, k < 400 → V 410 k = b k) ∧ (∀ k, k < 400 → 0 ≤ b k ∧ b k ≤ 255) ∧ V 76 1 = n ∧ V 405 8 = n ∧ (0 ≤ n ∧ n ≤ 400)
theorem cor_tape {V : xF} {p : Rw} (hS : St V 81 p) : St (up2 V 76 1 0) 81 p := by
  unfold St
  rw [up2_na (by decide), up2_na (by decide), up2_na (by decide), up2_na (by decide), up2_na (by decide), up2_na (by decide), up2_na (by decide), up2_na (by decide), up2_na (by decide), up2_na (by decide), up2_na (by decide)]
  exact hS
theorem ca_where {r n l : Int} (hT : Tp V b n) (hS : St V 81 p) (hB : V 2 = xback5) (hW : WF p)
    (h : ∀ V' D', Cor (up2 V 76 1 0) V' → CorD D D' → Q (cRes (aTp p r n b (fun r => whereF p r b (n / 2).toNat l))) V' D') : RY d 180 0 [vr 70, vi r, vi l, vr 0] [] V D Q := by
  obtain ⟨t1, t2, t3, t4, t5, t6⟩ := hT
  have S1 := cor_tape hS
  have hCD : ∀ (L : xF), CorD D (L, D.2) := fun L => ⟨fun _ _ => rfl, rfl, rfl, by dsimp only; omega, by dsimp only; omega⟩
  have hCE : ∀ (L : xF), CorD D (excD (L, D.2)) := fun L => ⟨fun _ _ => rfl, rfl, rfl, Nat.le_refl _, Nat.le_refl _⟩
  refine u_180_0 (c_takeRows t1 t3 t4 t6 (fun hok L hL => ?_) (fun hno L => ?_))
  · refine u_180_7 (c_needRoom S1 (fun hr => ?_) (fun hr => ⟨rfl, ?_⟩))
    · refine u_180_13 (u_268_0 ⟨fun _ => ?_, fun h5 => absurd h5 (by decide)⟩)
      obtain ⟨r, rfl⟩ : ∃ k : Nat, r = (k : Int) := ⟨r.toNat, by omega⟩
      refine u_180_18 (c_fitting S1 (by rw [up2_na (by decide)]; exact hB) hW hr.2 hL (fun j hj => (hok.2.2 j (by omega)).1) ?_)
      intro V' C
      have := h V' (L, D.2) C (hCD L)
      unfold aTp at this
      rw [if_pos hr, if_pos hok, nn_toNat] at this
      exact u_180_35 this
    · have := h _ _ Cor.rf (hCE L)
      unfold aTp at this
      rw [if_neg hr] at this
      exact this
  · refine u_180_7 (c_needRoom S1 (fun hr => ?_) (fun hr => ⟨rfl, ?_⟩))
    · refine u_180_13 (u_268_0 ⟨fun h5 => absurd rfl h5, fun _ => ⟨rfl, ?_⟩⟩)
      have := h _ _ Cor.rf (hCE L)
      unfold aTp at this
      rw [if_pos hr, if_neg hno] at this
      exact this
    · have := h _ _ Cor.rf (hCE L)
      unfold aTp at this
      rw [if_neg hr] at this
      exact this
/-! ===== the model's ===== -/
theorem plN_wr (hW : WF p) {r a c : Nat} (hr : (r : Int) < p 3) (hc : c < prow p r) (hlt : c + a * prow p r < pN p r) : wr (wr (16 * (((a + 1 : Nat)) : Int)) + (((c + 1 : Nat)) : Int)) = ((plN p r (c + a * prow p r) : Nat) : Int) := by
  have hpn := plN_is hW hr hlt
  have hix := pl_ix (p := p) (r := r) (a := a) (b := c) hc
  have h1 := hpn.1
  unfold plc at h1
  rw [hix.1, hix.2] at h1
  have h2 := hpn.2.1
  rw [← h1, wr_id (x := 16 * (((a + 1 : Nat)) : Int)) (by omega) (by omega), wr_id (by omega) (by omega)]
  omega
theorem wr64 {z t : Nat} (hz : z < 192) (ht : t < 64) : wr (wr (64 * ((z : Nat) : Int)) + (t : Int)) = ((64 * z + t : Nat) : Int) := by
  rw [wr_id (x := 64 * ((z : Nat) : Int)) (by omega) (by omega), wr_id (by omega) (by omega)]
  omega
/-- places marked -/
def Marks (p : Rw) (r : Nat) (g : Nat → Bool) (n : Nat) (V : xF) : Prop :=
  (∀ i, i < n → V 415 (plN p r i) = if g i then 1 else 0) ∧ (∀ k, k < 256 → (∀ i, i < n → plN p r i ≠ k) → V 415 k = 0) ∧ (∀ i, i < n → ∀ t, t < 64 → V 417 (64 * plN p r i + t) = hP p r i t)
abbrev mMk : List Nat := [412, 413, 415, 417]
theorem m_marks {r m : Nat} (hm : m ≤ 20) (hV : ∀ k, k < 400 → V 410 k = b k) (hb : ∀ j, j < m → 1 ≤ b (2 * j) ∧ b (2 * j) ≤ 63) (hW : WF (V 406)) (hr : (r : Int) < V 406 3)
    (h : ∀ V', Marks (V 406) r (fitP (V 406) r b m) (pN (V 406) r) V' → Fr mMk V V' → Q (.inl (some (vi (cntB (fitP (V 406) r b m) (pN (V 406) r))))) V' D) :
    RY d 182 0 [vr 405, vi (r : Int), vi (((2 * m : Nat)) : Int), vr 0, vr 0, vr 0, vr 0, vr 0] [] V D Q := by
  have hb' := pl_b hW hr
  obtain ⟨hr5, hw, hd⟩ := hW.room hr
  have ep : (prow (V 406) r : Int) = rD (V 406) r - 1 := by unfold prow; omega
  obtain ⟨g, hg⟩ : ∃ g, g = fitP (V 406) r b m := ⟨_, rfl⟩
  rw [← hg] at h
  refine u_182_0 ?_
  have zero : ∀ (n k : Nat) (V1 : xF), k + n = 256 → (∀ i, i < k → V1 415 i = 0) → Fr mMk V V1 →
      (∀ V2, (∀ i, i < 256 → V2 415 i = 0) → Fr mMk V V2 → RY d 182 30 [vr 405, vi (r : Int), vi (((2 * m : Nat)) : Int), vi 0, vi 1, vr 0, vr 0, vr 0] [] V2 D Q) →
      RY d 182 5 [vr 405, vi (r : Int), vi (((2 * m : Nat)) : Int), vi 0, vi (k : Int), vr 0, vr 0, vr 0] [] V1 D Q := by
    intro n
    induction n with
    | zero =>
      intro k V1 hk h1 F hx
      exact u_182_5 ⟨fun _ => hx V1 (fun i hi => h1 i (by omega)) F, fun h5 => by omega⟩
    | succ n ih =>
      intro k V1 hk h1 F hx
      refine u_182_5 ⟨fun h5 => by omega, fun _ => ⟨by omega, Or.inl rfl, ?_⟩⟩
      rintro V2 rfl
      rw [nn_toNat, wr_id (by omega) (by omega)]
      refine ih (k + 1) _ (by omega) ?_ (F.tr (Fr.up (by decide))) hx
      intro i hi
      rw [up2_a]
      split
      · rfl
      · exact h1 i (by omega)
  have inner : ∀ (k a c : Nat) (V1 : xF) (v6 v7 : xV), c + k = prow (V 406) r → a < (rW (V 406) r - 1).toNat → Marks (V 406) r g (c + a * prow (V 406) r) V1 → Fr mMk V V1 →
      (∀ V2 v v' v'', Marks (V 406) r g ((a + 1) * prow (V 406) r) V2 → Fr mMk V V2 → RY d 182 30 [vr 405, vi (r : Int), vi (((2 * m : Nat)) : Int), vi (cntB g ((a + 1) * prow (V 406) r)), vi (((a + 2 : Nat)) : Int), v, v', v''] [] V2 D Q) →
      RY d 182 44 [vr 405, vi (r : Int), vi (((2 * m : Nat)) : Int), vi (cntB g (c + a * prow (V 406) r)), vi (((a + 1 : Nat)) : Int), vi (((c + 1 : Nat)) : Int), v6, v7] [] V1 D Q := by
    intro k
    induction k with
    | zero =>
      intro a c V1 v6 v7 hk ha hM F hx
      have e6 : V1 406 = V 406 := F.at_ 406 (by decide)
      refine u_182_44 ⟨yg133 hr5 (by omega), ?_⟩
      rw [yr133_1 hr5, e6, wr_id (by omega) (by omega)]
      have hb'' : c = prow (V 406) r := by omega
      refine ⟨fun _ => ?_, fun h5 => by omega⟩
      have ee : (a + 1) * prow (V 406) r = c + a * prow (V 406) r := by rw [Nat.succ_mul, hb'']; omega
      have := hx V1 (vi (((c + 1 : Nat)) : Int)) v6 v7 (by rw [ee]; exact hM) F
      rw [ee] at this
      rw [show (((a + 1 : Nat)) : Int) + 1 = ((a + 2 : Nat) : Int) by omega]
      exact this
    | succ k ih =>
      intro a c V1 v6 v7 hk ha hM F hx
      have e6 : V1 406 = V 406 := F.at_ 406 (by decide)
      have hix := pl_ix (p := V 406) (r := r) (a := a) (b := c) (by omega)
      have hlt : c + a * prow (V 406) r < pN (V 406) r := by
        unfold pN
        have := Nat.mul_le_mul_right (prow (V 406) r) (show a + 1 ≤ (rW (V 406) r - 1).toNat by omega)
        rw [Nat.succ_mul] at this
        omega
      have hpn := plN_is hW hr hlt
      have hc := cntB_b g (c + a * prow (V 406) r)
      refine u_182_44 ⟨yg133 hr5 (by omega), ?_⟩
      rw [yr133_1 hr5, e6]
      refine ⟨fun h5 => by omega, fun _ => ?_⟩
      refine m_hears (by rw [e6]; exact hW) (by rw [e6]; exact hr) (by rw [e6]; unfold isPl; omega) ?_
      rw [e6]
      intro V2 h2 h3 F2
      have eh : hearT (V 406) r (((a + 1 : Nat)) : Int) (((c + 1 : Nat)) : Int) = hP (V 406) r (c + a * prow (V 406) r) := by
        unfold hP
        rw [hix.1, hix.2, show (((a + 1 : Nat)) : Int) = 1 + (a : Int) by omega, show (((c + 1 : Nat)) : Int) = 1 + (c : Int) by omega]
      rw [eh] at h2 ⊢
      obtain ⟨z, hz⟩ : ∃ z, z = plN (V 406) r (c + a * prow (V 406) r) := ⟨_, rfl⟩
      have hfit : fitB b (hP (V 406) r (c + a * prow (V 406) r)) m = g (c + a * prow (V 406) r) := by rw [hg]; rfl
      refine u_182_64 ?_
      rw [plN_wr hW hr (show c < prow (V 406) r by omega) hlt, ← hz]
      refine m_isAsTold hm (by rw [F2.at_ 410 (by decide), F.at_ 410 (by decide)]; exact hV) hb h2 ?_
      rw [hfit]
      refine u_182_83 ⟨by omega, by split <;> simp, ?_⟩
      rintro V3 rfl
      rw [nn_toNat]
      have hM2 : ∀ i, i < c + a * prow (V 406) r → plN (V 406) r i ≠ z := by
        intro i hi e
        have := plN_mono hW hr hlt hi
        omega
      have copy : ∀ (n t : Nat) (V4 : xF), t + n = 64 → (∀ u, u < t → V4 417 (64 * z + u) = hP (V 406) r (c + a * prow (V 406) r) u) → (∀ i, (∀ u, u < 64 → i ≠ 64 * z + u) → V4 417 i = V2 417 i) → V4 415 = up2 V2 415 z (if g (c + a * prow (V 406) r) = true then 1 else 0) 415 → V4 412 = V2 412 → Fr mMk V V4 →
          RY d 182 87 [vr 405, vi (r : Int), vi (((2 * m : Nat)) : Int), vi (cntB g (c + a * prow (V 406) r)), vi (((a + 1 : Nat)) : Int), vi (((c + 1 : Nat)) : Int), vi (cntT (hP (V 406) r (c + a * prow (V 406) r)) 64), vi (t : Int)] [] V4 D Q := by
        intro n
        induction n with
        | zero =>
          intro t V4 ht c1 c2 c3 c4 F4
          refine u_182_87 ⟨fun _ => ?_, fun h5 => by omega⟩
          rw [plN_wr hW hr (show c < prow (V 406) r by omega) hlt, ← hz, nn_toNat, c3, up2_at]
          have hM' : Marks (V 406) r g (c + a * prow (V 406) r + 1) V4 := by
            obtain ⟨q1, q2, q3⟩ := hM
            refine ⟨fun i hi => ?_, fun k9 hk9 hn9 => ?_, fun i hi t9 ht9 => ?_⟩
            · rw [c3, up2_a]
              by_cases e : i = c + a * prow (V 406) r
              · rw [e, ← hz, if_pos rfl]
              · rw [if_neg (hM2 i (by omega)), F2.at_ 415 (by decide)]
                exact q1 i (by omega)
            · rw [c3, up2_a, if_neg (fun e => hn9 (c + a * prow (V 406) r) (by omega) (by omega)), F2.at_ 415 (by decide)]
              exact q2 k9 hk9 fun i hi => hn9 i (by omega)
            · by_cases e : i = c + a * prow (V 406) r
              · rw [e, ← hz]
                exact c1 t9 (by omega)
              · have hne := hM2 i (by omega)
                rw [c2 _ (fun u hu => by omega), F2.at_ 417 (by decide)]
                exact q3 i (by omega) t9 ht9
          have := ih a (c + 1) V4 (vi (cntT (hP (V 406) r (c + a * prow (V 406) r)) 64)) (vi (t : Int)) (by omega) ha (by rw [show c + 1 + a * prow (V 406) r = c + a * prow (V 406) r + 1 by omega]; exact hM') F4 hx
          rw [show c + 1 + a * prow (V 406) r = c + a * prow (V 406) r + 1 by omega] at this
          unfold cntB at this
          refine ⟨by omega, fun h5 => ?_, fun h5 => ?_⟩
          · cases hgb : g (c + a * prow (V 406) r) with
            | true => rw [hgb] at h5; exact absurd h5 (by decide)
            | false =>
              rw [hgb, if_neg (by decide)] at this
              rw [wr_id (by omega) (by omega), wr_id (by omega) (by omega)]
              rw [show (((c + 1 : Nat)) : Int) + 1 = ((c + 1 + 1 : Nat) : Int) by omega]
              exact this
          · cases hgb : g (c + a * prow (V 406) r) with
            | false => rw [hgb] at h5; exact absurd rfl h5
            | true =>
              rw [hgb, if_pos rfl] at this
              rw [wr_id (by omega) (by omega), wr_id (by omega) (by omega)]
              rw [show (((c + 1 : Nat)) : Int) + 1 = ((c + 1 + 1 : Nat) : Int) by omega]
              exact this
        | succ n ihc =>
          intro t V4 ht c1 c2 c3 c4 F4
          refine u_182_87 ⟨fun h5 => by omega, fun _ => ?_⟩
          rw [plN_wr hW hr (show c < prow (V 406) r by omega) hlt, ← hz, wr64 (by omega) (by omega), nn_toNat, nn_toNat]
          refine ⟨by omega, by omega, ?_⟩
          rintro V5 rfl
          rw [wr_id (by omega) (by omega), c4, h2 t (by omega)]
          refine ihc (t + 1) _ (by omega) (fun u hu => ?_) (fun i hi => ?_) (by rw [up2_na (by decide)]; exact c3) (by rw [up2_na (by decide)]; exact c4) (F4.tr (Fr.up (by decide)))
          · rw [up2_a]
            by_cases e : u = t
            · subst e; rw [if_pos rfl]
            · rw [if_neg (by omega)]; exact c1 u (by omega)
          · rw [up2_ni (hi t (by omega))]
            exact c2 i hi
      exact copy 64 0 _ (by omega) (fun u hu => by omega) (fun i _ => by rw [up2_na (by decide)]) rfl (by rw [up2_na (by decide)]) ((F.tr (F2.sub (by decide))).tr (Fr.up (by decide)))
  have outer : ∀ (k a : Nat) (V1 : xF) (v v' v'' : xV), a + k = (rW (V 406) r - 1).toNat → Marks (V 406) r g (a * prow (V 406) r) V1 → Fr mMk V V1 → RY d 182 30 [vr 405, vi (r : Int), vi (((2 * m : Nat)) : Int), vi (cntB g (a * prow (V 406) r)), vi (((a + 1 : Nat)) : Int), v, v', v''] [] V1 D Q := by
    intro k
    induction k with
    | zero =>
      intro a V1 v v' v'' hk hM F
      have e6 : V1 406 = V 406 := F.at_ 406 (by decide)
      refine u_182_30 ⟨yg133 hr5 (by omega), ?_⟩
      rw [yr133_0 hr5, e6]
      refine ⟨fun _ => ?_, fun h5 => by omega⟩
      have ea : a * prow (V 406) r = pN (V 406) r := by unfold pN; rw [show a = (rW (V 406) r - 1).toNat by omega]
      rw [ea] at hM ⊢
      exact h V1 hM F
    | succ k ih =>
      intro a V1 v v' v'' hk hM F
      have e6 : V1 406 = V 406 := F.at_ 406 (by decide)
      refine u_182_30 ⟨yg133 hr5 (by omega), ?_⟩
      rw [yr133_0 hr5, e6]
      refine ⟨fun h5 => by omega, fun _ => ?_⟩
      have := inner (prow (V 406) r) a 0 V1 v' v'' (by omega) (by omega) (by rw [Nat.zero_add]; exact hM) F (fun V2 v v' v'' M2 F2 => ih (a + 1) V2 v v' v'' (by omega) M2 F2)
      rw [Nat.zero_add] at this
      exact this
  refine zero 256 0 V (by omega) (fun i hi => by omega) Fr.rf ?_
  intro V2 hz F2
  have := outer (rW (V 406) r - 1).toNat 0 V2 (vr 0) (vr 0) (vr 0) (by omega) ⟨fun i hi => by rw [Nat.zero_mul] at hi; omega, fun k hk _ => hz k hk, fun i hi => by rw [Nat.zero_mul] at hi; omega⟩ F2
  rw [Nat.zero_mul] at this
  exact this
/-- the model's tape -/
def TpM (V : xF) (b : Nat → Int) (n : Int) : Prop := (∀ k, k < 400 → V 410 k = b k) ∧ (∀ k, k < 400 → 0 ≤ b k ∧ b k ≤ 255) ∧ V 405 8 = n ∧ (0 ≤ n ∧ n ≤ 400)
/-- how many bytes were told; what is wrong -/
theorem m_rows {n i1 : Int} (hT : TpM V b n)
    (h : ∀ V', Cor (up2 V 405 8 0) V' → Fr [405] V V' → ((i1 = 0 ∧ V' 405 0 = 1) ∨ (i1 ≠ 0 ∧ okRows b n ∧ V' 405 0 = 0) ∨ (i1 ≠ 0 ∧ ¬ okRows b n ∧ V' 405 0 = 2)) → Q (.inl (some (vi n))) V' D) :
    RY d 181 0 [vr 405, vi i1, vr 0] [] V D Q := by
  obtain ⟨t2, t3, t5, t6⟩ := hT
  refine u_181_0 ?_
  rintro V1 rfl
  have CC : ∀ z, Cor (up2 V 405 8 0) (up2 (up2 V 405 8 0) 405 0 z) := fun z => Cor.up405 (by decide) (by decide) (by decide) (by decide)
  have FF : ∀ z, Fr [405] V (up2 (up2 V 405 8 0) 405 0 z) := fun z => (Fr.up (by decide)).tr (Fr.up (by decide))
  rw [t5]
  refine ⟨fun h5 => ?_, fun h5 => ?_⟩
  · refine m_areRows (b := b) (by rw [up2_na (by decide)]; exact t2) t3 t6 (fun hok => ?_) (fun hno => ?_)
    · refine u_181_24 ⟨fun _ => ?_, fun h6 => absurd h6 (by decide)⟩
      rintro V1 rfl
      exact h _ (CC _) (FF _) (Or.inr (Or.inl ⟨h5, hok, up2_at _ _ _ _⟩))
    · refine u_181_24 ⟨fun h6 => absurd rfl h6, fun _ => ?_⟩
      rintro V1 rfl
      exact h _ (CC _) (FF _) (Or.inr (Or.inr ⟨h5, hno, up2_at _ _ _ _⟩))
  · rintro V2 rfl
    exact h _ (CC _) (FF _) (Or.inl ⟨h5, up2_at _ _ _ _⟩)
/-- the model's code for a call that uses the tape up -/
def tpCode (a : aRes) : Int := match a with
  | .inl _ => 0
  | .inr E => if E = 2 then 1 else 2
theorem ma_where {r n l : Int} (hT : TpM V b n) (hW : WF (V 406))
    (h : ∀ V', V' 405 0 = tpCode (aTp (V 406) r n b (fun r => whereF (V 406) r b (n / 2).toNat l)) → Cor (up2 V 405 8 0) V' → Q (.inl (some (vi (mVal (aTp (V 406) r n b (fun r => whereF (V 406) r b (n / 2).toNat l)))))) V' D) :
    RY d 50 0 [vr 405, vi r, vi l, vr 0, vr 0, vr 0] [] V D Q := by
  have hT' := hT
  obtain ⟨t2, t3, t5, t6⟩ := hT'
  refine u_50_0 ⟨yg132, ?_⟩
  rw [yr132 hW]
  refine m_rows hT ?_
  intro V1 C1 F1 h1
  have e6 : V1 406 = V 406 := F1.at_ 406 (by decide)
  unfold aTp at h
  refine u_50_9 ⟨fun h5 => ?_, fun h5 => ?_⟩
  · by_cases hr : 0 ≤ r ∧ r < V 406 3
    · rw [if_pos hr] at h1 h
      have hok : okRows b n := by
        rcases h1 with h1 | h1 | h1
        · omega
        · exact h1.2.1
        · omega
      rw [if_pos hok] at h
      obtain ⟨r, rfl⟩ : ∃ k : Nat, r = (k : Int) := ⟨r.toNat, by omega⟩
      rw [nn_toNat] at h
      have hm : n = ((2 * (n / 2).toNat : Nat) : Int) := by have := hok.2.1; omega
      have h20 : (n / 2).toNat ≤ 20 := by have := hok.1; omega
      obtain ⟨m, hm'⟩ : ∃ m, m = (n / 2).toNat := ⟨_, rfl⟩
      rw [← hm'] at hm h20 h
      rw [show vi n = vi (((2 * m : Nat)) : Int) by rw [← hm]]
      refine m_marks h20 (by rw [F1.at_ 410 (by decide)]; exact t2) (fun j hj => (hok.2.2 j (by omega)).1) (by rw [e6]; exact hW) (by rw [e6]; exact hr.2) ?_
      rw [e6]
      intro V2 hM F2
      have C2 : Cor (up2 V 405 8 0) V2 := C1.tr (F2.cor (by decide))
      have t0 : V1 405 0 = 0 := by
        rcases h1 with h1 | h1 | h1
        · omega
        · exact h1.2.2
        · omega
      have hq := h V2 (by rw [F2.at_ 405 (by decide), t0]; rfl) C2
      dsimp only [mVal] at hq
      unfold whereF at hq
      refine u_50_25 ⟨fun h6 => ?_, fun h6 => ?_⟩
      · rw [if_neg h6] at hq
        have scan : ∀ (c k : Nat), k + c = 256 → (∀ i, i < pN (V 406) r → fitP (V 406) r b m i = true → k ≤ plN (V 406) r i) → ∀ i4, RY d 50 37 [vr 405, vi (r : Int), vi l, vi (((2 * m : Nat)) : Int), vi i4, vi (k : Int)] [] V2 D Q := by
          intro c
          induction c with
          | zero =>
            intro k hk hall i4
            refine u_50_37 ⟨fun _ => ?_, fun h7 => by omega⟩
            rcases fstB_spec (fitP (V 406) r b m) (pN (V 406) r) with ⟨x, y⟩ | ⟨i, x, y, z, w⟩
            · rw [x] at hq
              exact hq
            · have := hall i y z
              have := (plN_is hW hr.2 y).2.1
              omega
          | succ c ihc =>
            intro k hk hall i4
            refine u_50_37 ⟨fun h7 => by omega, fun _ => ⟨by omega, ?_⟩⟩
            rw [nn_toNat, wr_id (by omega) (by omega)]
            refine ⟨fun h7 => ihc (k + 1) (by omega) ?_ i4, fun h7 => ?_⟩
            · intro i hi hgi
              have h8 := hall i hi hgi
              have h9 := hM.1 i hi
              rw [hgi, if_pos rfl] at h9
              by_cases e : plN (V 406) r i = k
              · rw [e, h7] at h9
                exact absurd h9 (by decide)
              · omega
            · have hex : ∃ i, i < pN (V 406) r ∧ plN (V 406) r i = k := by
                apply Classical.byContradiction
                intro hno
                exact h7 (hM.2.1 k (by omega) fun i hi e => hno ⟨i, hi, e⟩)
              obtain ⟨i, hi, e⟩ := hex
              have h9 := hM.1 i hi
              rw [e] at h9
              have hgi : fitP (V 406) r b m i = true := by
                cases hgb : fitP (V 406) r b m i with
                | true => rfl
                | false => rw [hgb, if_neg (by decide)] at h9; exact absurd h9 h7
              rcases fstB_spec (fitP (V 406) r b m) (pN (V 406) r) with ⟨x, y⟩ | ⟨i', x, y, z, w⟩
              · rw [y i hi] at hgi
                cases hgi
              · have hii : i' = i := by
                  rcases Nat.lt_trichotomy i' i with e' | e' | e'
                  · have := hall i' y z
                    have := plN_mono hW hr.2 hi e'
                    omega
                  · exact e'
                  · rw [w i e'] at hgi; cases hgi
                subst hii
                rw [x] at hq
                unfold plcI at hq
                rw [if_neg (by omega), nn_toNat, (plN_is hW hr.2 y).1, e] at hq
                exact hq
        exact scan 256 0 (by omega) (fun i _ _ => by omega) _
      · rw [if_pos h6] at hq
        exact hq
    · rw [if_neg hr] at h1
      rcases h1 with h1 | h1 | h1
      · omega
      · exact absurd rfl h1.1
      · exact absurd rfl h1.1
  · by_cases hr : 0 ≤ r ∧ r < V 406 3
    · rw [if_pos hr] at h1 h
      rcases h1 with h1 | h1 | h1
      · omega
      · omega
      · rw [if_neg h1.2.1] at h
        exact h V1 (by rw [h1.2.2]; rfl) C1
    · rw [if_neg hr] at h1 h
      rcases h1 with h1 | h1 | h1
      · exact h V1 (by rw [h1.2]; rfl) C1
      · exact absurd rfl h1.1
      · exact absurd rfl h1.1
end WHERE
