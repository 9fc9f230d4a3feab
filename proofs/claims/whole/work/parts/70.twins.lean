/-! ===== TWINS, BEST ===== -/
section TWINS
variable {d : Nat} {V : xF} {D : yD} {Q : xRes → xF → yD → Prop} {p : Rw}
noncomputable def twB (p : Rw) (r o : Nat) : Int := if apF p r o = -1 then 1 else 0
theorem apF_sym {p : Rw} {r o : Nat} : apF p r o = apF p o r := by
  unfold apF
  congr 1
  funext k
  exact propext ⟨isAp.sym, isAp.sym⟩
theorem twB_b (p : Rw) (i j : Nat) : 0 ≤ twB p i j ∧ twB p i j ≤ 1 := by unfold twB; split <;> omega
noncomputable def twinsF (p : Rw) : Int := prC (twB p) (p 3).toNat
theorem ca_twins (hS : St V 81 p) (hB : V 2 = xback5) (hW : WF p) (h : ∀ V', Cor V V' → Q (.inl (some (vi (twinsF p)))) V' D) : RY d 57 0 [vr 70] [] V D Q := by
  have h3 : 0 ≤ p 3 ∧ p 3 ≤ 5 := hW.1
  refine u_57_0 (u_190_0_81 ?_)
  have inner : ∀ (n j i : Nat) (V1 : xF), j + n = i → (i : Int) < p 3 → Fr aLk V V1 → (∀ V2 v, Fr aLk V V2 → RY d 190 4 [vr 382, vr 81, vi (prC (twB p) (i + 1)), vi (((i + 1 : Nat)) : Int), v] [] V2 D (yback d 57 11 [vr 70] [] Q)) → RY d 190 15 [vr 382, vr 81, vi (prC (twB p) i + prI (twB p) i j), vi (i : Int), vi (j : Int)] [] V1 D (yback d 57 11 [vr 70] [] Q) := by
    intro n
    induction n with
    | zero =>
      intro j i V1 hj hi F hx
      have : j = i := by omega
      subst this
      refine u_190_15_81 ⟨fun _ => ?_, fun h5 => by omega⟩
      rw [wr_id (by omega) (by omega)]
      exact hx V1 _ F
    | succ n ih =>
      intro j i V1 hj hi F hx
      have b1 := prC_b (F := twB p) (twB_b p) i (by omega)
      have b2 := prI_b (F := twB p) (twB_b p) i j
      have S1 : St V1 81 p := (F.cor (by decide)).st hS
      refine u_190_15_81 ⟨fun h5 => by omega, fun _ => ?_⟩
      refine c_apart S1 (by rw [F.at_ 2 (by decide)]; exact hB) hW hi (by omega) (fun V2 F2 => u_190_29_81 ?_)
      have := ih (j + 1) i V2 (by omega) hi (F.tr F2) hx
      have e : prI (twB p) i (j + 1) = prI (twB p) i j + twB p j i := rfl
      rw [e] at this
      have e2 : twB p j i = if apF p i j = -1 then 1 else 0 := by unfold twB; rw [apF_sym]
      rw [wr_id (x := (j : Int) + 1) (by omega) (by omega), wr_id (x := prC (twB p) i + prI (twB p) i j + 1) (by omega) (by omega)]
      refine ⟨fun h5 => ?_, fun h5 => ?_⟩
      · rw [e2, if_neg h5, Int.add_zero] at this
        exact this
      · rw [e2, if_pos h5, ← Int.add_assoc] at this
        exact this
  have outer : ∀ (n i : Nat) (V1 : xF) (v : xV), (i : Int) + n = p 3 → Fr aLk V V1 → RY d 190 4 [vr 382, vr 81, vi (prC (twB p) i), vi (i : Int), v] [] V1 D (yback d 57 11 [vr 70] [] Q) := by
    intro n
    induction n with
    | zero =>
      intro i V1 v hi F
      have S1 : St V1 81 p := (F.cor (by decide)).st hS
      have e0 := S1.rooms
      have : (p 3).toNat = i := by omega
      unfold twinsF at h
      rw [this] at h
      exact u_190_4_81 ⟨fun _ => u_57_11 (h V1 (F.cor (by decide))), fun h5 => by omega⟩
    | succ n ih =>
      intro i V1 v hi F
      have S1 : St V1 81 p := (F.cor (by decide)).st hS
      have e0 := S1.rooms
      refine u_190_4_81 ⟨fun h5 => by omega, fun _ => ?_⟩
      have := inner i 0 i V1 (by omega) (by omega) F (fun V2 v F2 => ih (i + 1) V2 v (by omega) F2)
      rw [show prI (twB p) i 0 = 0 from rfl, Int.add_zero] at this
      exact this
  exact outer (p 3).toNat 0 V _ (by omega) Fr.rf
theorem prJ_b {F : Nat → Nat → Int} (hF : ∀ i j, 0 ≤ F i j ∧ F i j ≤ 1) : ∀ (n i j : Nat), 0 ≤ prJ F i j n ∧ prJ F i j n ≤ n
  | 0, i, j => ⟨Int.le_refl _, Int.le_refl _⟩
  | n + 1, i, j => by
    have := prJ_b hF n i (j + 1)
    have := hF i j
    unfold prJ
    omega
theorem ma_twins (hW : WF (V 406)) (h : ∀ V', V' 405 0 = 0 → Cor V V' → Q (.inl (some (vi (twinsF (V 406))))) V' D) : RY d 58 0 [vr 405, vr 0, vr 0, vr 0] [] V D Q := by
  refine u_58_0 ?_
  rintro V0 hV0
  have e6 : V0 406 = V 406 := by rw [hV0]; exact v405.2.1
  have t0 : V0 405 0 = 0 := by rw [hV0]; exact v405.1
  have C0 : Cor V V0 := by rw [hV0]; exact v405.2.2
  clear hV0
  have hq : ∀ V', Fr mLk V0 V' → Q (.inl (some (vi (twinsF (V0 406))))) V' D := fun V' F => by rw [e6]; exact h V' (by rw [F.at_ 405 (by decide)]; exact t0) (C0.tr (F.cor (by decide)))
  rw [← e6] at hW
  clear h
  have h3 : 0 ≤ V0 406 3 ∧ V0 406 3 ≤ 5 := hW.1
  obtain ⟨N, hN⟩ : ∃ N : Nat, V0 406 3 = (N : Int) := ⟨(V0 406 3).toNat, by omega⟩
  obtain ⟨G, hG⟩ : ∃ G, G = twB (V0 406) := ⟨_, rfl⟩
  have Gb : ∀ i j, 0 ≤ G i j ∧ G i j ≤ 1 := by rw [hG]; exact twB_b _
  unfold twinsF at hq
  rw [← hG, hN, nn_toNat, ← pr_eq G (by omega)] at hq
  have g6 : ∀ {V1 : xF}, Fr mLk V0 V1 → V1 406 = V0 406 := fun F => F.at_ 406 (by decide)
  have inner : ∀ (n j i : Nat) (a : Int) (V1 : xF), j + n = N → i < N → 0 ≤ a ∧ a ≤ 1000 - n → Fr mLk V0 V1 → (∀ V2 v, Fr mLk V0 V2 → RY d 58 9 [vr 405, vi (a + prJ G i j n), vi (((i + 1 : Nat)) : Int), v] [] V2 D Q) → RY d 58 23 [vr 405, vi a, vi (i : Int), vi (j : Int)] [] V1 D Q := by
    intro n
    induction n with
    | zero =>
      intro j i a V1 hj hi ha F hx
      have e := g6 F
      refine u_58_23 ⟨fun _ => ?_, fun h5 => by rw [e] at h5; omega⟩
      rw [wr_id (by omega) (by omega)]
      have := hx V1 (vi (j : Int)) F
      rw [show prJ G i j 0 = 0 from rfl, Int.add_zero] at this
      exact this
    | succ n ih =>
      intro j i a V1 hj hi ha F hx
      have e := g6 F
      have hb := Gb i j
      refine u_58_23 ⟨fun h5 => by rw [e] at h5; omega, fun _ => ?_⟩
      refine m_apart (by rw [e]; exact hW) (by rw [e]; omega) (by rw [e]; omega) ?_
      rw [e]
      intro V2 F2
      have ep : prJ G i j (n + 1) = G i j + prJ G i (j + 1) n := rfl
      have := ih (j + 1) i (a + G i j) V2 (by omega) hi (by omega) (F.tr F2) (fun V3 v F3 => by rw [ep, ← Int.add_assoc] at hx; exact hx V3 v F3)
      have eG : G i j = if apF (V0 406) i j = -1 then 1 else 0 := by rw [hG]; rfl
      refine u_58_40 ⟨fun h5 => ?_, fun h5 => ?_⟩
      · rw [wr_id (x := (j : Int) + 1) (by omega) (by omega), wr_id (x := a + 0) (by omega) (by omega)]
        rw [eG, if_neg h5] at this
        exact this
      · rw [wr_id (x := (j : Int) + 1) (by omega) (by omega), wr_id (x := a + 1) (by omega) (by omega)]
        rw [eG, if_pos h5] at this
        exact this
  have outer : ∀ (n i : Nat) (a : Int) (V1 : xF) (v : xV), i + n = N → 0 ≤ a ∧ a ≤ 10 * (i : Int) → a + prM G N i n = prM G N 0 N → Fr mLk V0 V1 → RY d 58 9 [vr 405, vi a, vi (i : Int), v] [] V1 D Q := by
    intro n
    induction n with
    | zero =>
      intro i a V1 v hi ha he F
      have e := g6 F
      have e0 : prM G N i 0 = 0 := rfl
      rw [← he, e0, Int.add_zero] at hq
      exact u_58_9 ⟨fun _ => hq V1 F, fun h5 => by rw [e] at h5; omega⟩
    | succ n ih =>
      intro i a V1 v hi ha he F
      have e := g6 F
      have e1 : prM G N i (n + 1) = prJ G i (i + 1) (N - (i + 1)) + prM G N (i + 1) n := rfl
      have hb := prJ_b Gb (N - (i + 1)) i (i + 1)
      refine u_58_9 ⟨fun h5 => by rw [e] at h5; omega, fun _ => ?_⟩
      rw [wr_id (by omega) (by omega)]
      exact inner (N - (i + 1)) (i + 1) i a V1 (by omega) (by omega) (by omega) F (fun V2 v F2 => ih (i + 1) _ V2 v (by omega) (by omega) (by rw [← he, e1]; omega) F2)
  exact outer N 0 0 V0 _ (by omega) (by omega) (by omega) Fr.rf
/-! ===== BEST ===== -/
def hvB (p : Rw) (x y : Int) : Prop := ∀ r : Nat, (r : Int) < p 3 → isPl p r x y
def unB (p : Rw) (x y : Int) (r o : Nat) : Int := if eqT (hearT p r x y) (hearT p o x y) 64 then 0 else 1
theorem unB_b (p : Rw) (x y : Int) (i j : Nat) : 0 ≤ unB p x y i j ∧ unB p x y i j ≤ 1 := by unfold unB; split <;> omega
def prsF (p : Rw) (x y : Int) : Int := prC (unB p x y) (p 3).toNat
noncomputable def bsS (p : Rw) (q : Int × Int) (x y : Int) : Int × Int := @ite _ (hvB p x y ∧ q.2 < prsF p x y) (Classical.propDecidable _) (16 * x + y, prsF p x y) q
noncomputable def bsY (p : Rw) (x : Int) : Nat → Int × Int → Int × Int
  | 0, q => q
  | n + 1, q => bsS p (bsY p x n q) x ((n + 1 : Nat) : Int)
noncomputable def bsX (p : Rw) : Nat → Int × Int → Int × Int
  | 0, q => q
  | n + 1, q => bsY p ((n + 1 : Nat) : Int) 11 (bsX p n q)
noncomputable def bestF (p : Rw) (b : Int) : Int := if p 3 = 0 then -1 else if b = 0 then (bsX p 11 (-1, -1)).1 else (bsX p 11 (-1, -1)).2
theorem bsS_lo {q : Int × Int} {x y : Int} (h : -1 ≤ q.2) (h3 : 0 ≤ prsF p x y) : -1 ≤ (bsS p q x y).2 := by
  unfold bsS
  split
  · dsimp only; omega
  · exact h
theorem prs_b (hW : WF p) (x y : Int) : 0 ≤ prsF p x y ∧ prsF p x y ≤ 25 := by
  have h3 : 0 ≤ p 3 ∧ p 3 ≤ 5 := hW.1
  have := prC_b (F := unB p x y) (unB_b p x y) (p 3).toNat (by omega)
  unfold prsF
  omega
theorem c_allHave {x y : Int} (hS : St V 81 p) (hW : WF p) (h : Q (.inl (some (vi (@ite _ (hvB p x y) (Classical.propDecidable _) 1 0)))) V D) : RY d 276 0 [vr 81, vi x, vi y, vr 0] [] V D Q := by
  have h3 : 0 ≤ p 3 ∧ p 3 ≤ 5 := hW.1
  have e0 := hS.rooms
  refine u_276_0_81 ?_
  have main : ∀ (n k : Nat), (k : Int) + n = p 3 → (∀ r, r < k → isPl p r x y) → RY d 276 2 [vr 81, vi x, vi y, vi (k : Int)] [] V D Q := by
    intro n
    induction n with
    | zero =>
      intro k hk hall
      refine u_276_2_81 ⟨fun _ => ?_, fun h5 => by omega⟩
      have hv : hvB p x y := fun r hr => hall r (by omega)
      rw [if_pos hv] at h
      exact h
    | succ n ih =>
      intro k hk hall
      refine u_276_2_81 ⟨fun h5 => by omega, fun _ => ?_⟩
      have y8 := yr328 (V := V) (D := D) (r := k) (x := x) (y := y) hS hW (by omega)
      refine ⟨y8.1, ?_⟩
      rw [y8.2, wr_id (by omega) (by omega)]
      by_cases hc : isPl p k x y
      · rw [if_pos hc]
        refine ⟨fun _ => ih (k + 1) (by omega) (fun r hr => ?_), fun h5 => absurd h5 (by decide)⟩
        by_cases e : r = k
        · subst e; exact hc
        · exact hall r (by omega)
      · rw [if_neg hc]
        refine ⟨fun h5 => absurd rfl h5, fun _ => ?_⟩
        rw [if_neg (fun hh => hc (hh k (by omega)))] at h
        exact h
  exact main (p 3).toNat 0 (by omega) (fun r hr => by omega)
abbrev aLp : List Nat := [254, 255, 384, 385, 386, 387, 388]
theorem yR383 {n : Nat} (hn : n < 5) : yR D.2.1 D.2.2.1 383 n = 384 + n := by
  have : n = 0 ∨ n = 1 ∨ n = 2 ∨ n = 3 ∨ n = 4 := by omega
  rcases this with h | h | h | h | h <;> subst h <;> rfl
theorem K383 : 24 ≤ (yK D.2.2.1 383).1 ∧ (yK D.2.2.1 383).1 ≤ 25 := ⟨Nat.le_of_ble_eq_true rfl, Nat.le_of_ble_eq_true rfl⟩
theorem rep384 {n : Nat} (hn : n < 5) : isRep (384 + n) := Or.inr (Or.inr (Or.inr ⟨by omega, by omega⟩))
theorem c_pairs {x y : Int} (hS : St V 81 p) (hB : V 2 = xback5) (hW : WF p) (hv : hvB p x y) (h : ∀ V', Fr aLp V V' → Q (.inl (some (vi (prsF p x y)))) V' D) : RY d 277 0 [vr 382, vr 81, vi (16 * x + y), vr 0, vr 0, vr 0] [] V D Q := by
  have h3 : 0 ≤ p 3 ∧ p 3 ≤ 5 := hW.1
  refine u_277_0_81 ?_
  have inner : ∀ (n j i : Nat) (V1 : xF), j + n = i → (i : Int) < p 3 → Fr aLp V V1 → (∀ k, k ≤ i → ∀ t, t < 48 → V1 (384 + k) t = hearT p k x y t) → (∀ V2 v, Fr aLp V V2 → (∀ k, k < i + 1 → ∀ t, t < 48 → V2 (384 + k) t = hearT p k x y t) → RY d 277 5 [vr 382, vr 81, vi (16 * x + y), vi (prC (unB p x y) (i + 1)), vi (((i + 1 : Nat)) : Int), v] [] V2 D Q) → RY d 277 35 [vr 382, vr 81, vi (16 * x + y), vi (prC (unB p x y) i + prI (unB p x y) i j), vi (i : Int), vi (j : Int)] [] V1 D Q := by
    intro n
    induction n with
    | zero =>
      intro j i V1 hj hi F hk hx
      have : j = i := by omega
      subst this
      refine u_277_35_81 ⟨fun _ => ?_, fun h5 => by omega⟩
      rw [wr_id (by omega) (by omega)]
      exact hx V1 _ F (fun k hk2 => hk k (by omega))
    | succ n ih =>
      intro j i V1 hj hi F hk hx
      have b1 := prC_b (F := unB p x y) (unB_b p x y) i (by omega)
      have b2 := prI_b (F := unB p x y) (unB_b p x y) i j
      refine u_277_35_81 ⟨fun h5 => by omega, fun _ => ⟨K383, ⟨by omega, by omega⟩, by rw [nn_toNat, yR383 (by omega)]; omega, ?_⟩⟩
      rintro q1 hq1
      refine ⟨K383, ⟨by omega, by omega⟩, by rw [nn_toNat, yR383 (by omega)]; omega, ?_⟩
      rintro q2 hq2
      rw [nn_toNat, yR383 (by omega)] at hq1 hq2
      subst hq1 hq2
      refine c_unlike (rep384 (by omega)) (rep384 (by omega)) (hk i (by omega)) (hk j (by omega)) (u_277_59_81 ?_)
      rw [eq48 ⟨hW, hi, hv i hi⟩ ⟨hW, by omega, hv j (by omega)⟩]
      have := ih (j + 1) i V1 (by omega) hi F hk hx
      have e : prI (unB p x y) i (j + 1) = prI (unB p x y) i j + unB p x y j i := rfl
      rw [e] at this
      have e2 : unB p x y j i = if eqT (hearT p i x y) (hearT p j x y) 64 then 0 else 1 := by unfold unB; rw [eqT_sym]
      rw [wr_id (x := (j : Int) + 1) (by omega) (by omega), wr_id (x := prC (unB p x y) i + prI (unB p x y) i j + 1) (by omega) (by omega)]
      refine ⟨fun h5 => ?_, fun h5 => ?_⟩
      · rw [e2, h5, Int.add_zero] at this
        exact this
      · have h6 : (if eqT (hearT p i x y) (hearT p j x y) 64 = true then (0 : Int) else 1) = 1 := by
          split at h5
          · exact absurd rfl h5
          · rename_i hh; rw [if_neg hh]
        rw [e2, h6, ← Int.add_assoc] at this
        exact this
  have outer : ∀ (n i : Nat) (V1 : xF) (v : xV), (i : Int) + n = p 3 → Fr aLp V V1 → (∀ k, k < i → ∀ t, t < 48 → V1 (384 + k) t = hearT p k x y t) → RY d 277 5 [vr 382, vr 81, vi (16 * x + y), vi (prC (unB p x y) i), vi (i : Int), v] [] V1 D Q := by
    intro n
    induction n with
    | zero =>
      intro i V1 v hi F hk
      have S1 : St V1 81 p := (F.cor (by decide)).st hS
      have e0 := S1.rooms
      have : (p 3).toNat = i := by omega
      unfold prsF at h
      rw [this] at h
      exact u_277_5_81 ⟨fun _ => h V1 F, fun h5 => by omega⟩
    | succ n ih =>
      intro i V1 v hi F hk
      have S1 : St V1 81 p := (F.cor (by decide)).st hS
      have e0 := S1.rooms
      refine u_277_5_81 ⟨fun h5 => by omega, fun _ => ⟨K383, ⟨by omega, by omega⟩, by rw [nn_toNat, yR383 (by omega)]; omega, ?_⟩⟩
      rintro q hq
      rw [nn_toNat, yR383 (by omega)] at hq
      subst hq
      refine c_listen_81 S1 (by rw [F.at_ 2 (by decide)]; exact hB) hW (by omega) (hv i (by omega)) (rep384 (by omega)) ?_
      intro V2 hV2
      have F12 : Fr aLp V V2 := F.tr (hV2.2.sub (fun a ha => by
        simp only [List.mem_cons, List.not_mem_nil, or_false] at ha ⊢
        omega))
      refine u_277_32_81 ?_
      have := inner i 0 i V2 (by omega) (by omega) F12 (fun k hk2 t ht => ?_) (fun V3 v F3 hk3 => ih (i + 1) V3 v (by omega) F3 hk3)
      · rw [show prI (unB p x y) i 0 = 0 from rfl, Int.add_zero] at this
        exact this
      · by_cases e : k = i
        · subst e; exact hV2.1 t ht
        · rw [hV2.2.at_ (384 + k) (by simp only [List.mem_cons, List.not_mem_nil, or_false]; omega)]
          exact hk k (by omega) t ht
  exact outer (p 3).toNat 0 V _ (by omega) Fr.rf (fun k hk => by omega)
theorem ca_best {b : Int} (hS : St V 81 p) (hB : V 2 = xback5) (hW : WF p) (h : ∀ V', Cor V V' → Q (.inl (some (vi (bestF p b)))) V' D) : RY d 59 0 [vr 70, vi b] [] V D Q := by
  have h3 : 0 ≤ p 3 ∧ p 3 ≤ 5 := hW.1
  unfold bestF at h
  refine u_59_0 (u_191_0_81 ?_)
  by_cases h0 : p 3 = 0
  · have e0 := hS.rooms
    rw [if_pos h0] at h
    refine u_191_8_81 ⟨fun _ => ⟨fun _ => u_59_12 (h V Cor.rf), fun _ => u_59_12 (h V Cor.rf)⟩, fun h5 => by omega⟩
  · rw [if_neg h0] at h
    have inner : ∀ (n y x : Nat) (q : Int × Int) (V1 : xF) (v7 : xV), y + n = 11 → x < 11 → -1 ≤ q.2 → Fr aLp V V1 → bsY p (((x + 1 : Nat)) : Int) y (bsX p x (-1, -1)) = q → (∀ V2 q v6 v7, Fr aLp V V2 → -1 ≤ q.2 → bsX p (x + 1) (-1, -1) = q → RY d 191 8 [vr 382, vr 81, vi b, vi q.1, vi q.2, vi (((x + 2 : Nat)) : Int), v6, v7] [] V2 D (yback d 59 12 [vr 70, vi b] [] Q)) → RY d 191 25 [vr 382, vr 81, vi b, vi q.1, vi q.2, vi (((x + 1 : Nat)) : Int), vi (((y + 1 : Nat)) : Int), v7] [] V1 D (yback d 59 12 [vr 70, vi b] [] Q) := by
      intro n
      induction n with
      | zero =>
        intro y x q V1 v7 hy hx hq F he hx2
        have : y = 11 := by omega
        subst this
        refine u_191_25_81 ⟨fun _ => ?_, fun h5 => by omega⟩
        rw [wr_id (by omega) (by omega)]
        exact hx2 V1 q _ _ F hq he
      | succ n ih =>
        intro y x q V1 v7 hy hx hq F he hx2
        have S1 : St V1 81 p := (F.cor (by decide)).st hS
        have hp := prs_b hW (((x + 1 : Nat)) : Int) (((y + 1 : Nat)) : Int)
        have eb : bsY p (((x + 1 : Nat)) : Int) (y + 1) (bsX p x (-1, -1)) = bsS p q (((x + 1 : Nat)) : Int) (((y + 1 : Nat)) : Int) := by rw [← he]; rfl
        have hlo := bsS_lo (p := p) (x := (((x + 1 : Nat)) : Int)) (y := (((y + 1 : Nat)) : Int)) hq hp.1
        have nxt := fun q V2 v hq F hb => ih (y + 1) x q V2 v (by omega) hx hq F hb hx2
        refine u_191_25_81 ⟨fun h5 => by omega, fun _ => c_allHave S1 hW (u_191_40_81 ?_)⟩
        have ey : wr ((((y + 1 : Nat)) : Int) + 1) = (((y + 1 + 1 : Nat)) : Int) := by rw [wr_id (by omega) (by omega)]; omega
        rw [ey]
        by_cases hv : hvB p (((x + 1 : Nat)) : Int) (((y + 1 : Nat)) : Int)
        · rw [if_pos hv]
          refine ⟨fun h5 => absurd h5 (by decide), fun _ => ?_⟩
          rw [yr265 (by omega) (by omega)]
          refine c_pairs S1 (by rw [F.at_ 2 (by decide)]; exact hB) hW hv (fun V2 F2 => u_191_55_81 ?_)
          rw [ey, yr265 (by omega) (by omega)]
          unfold bsS at eb hlo
          refine ⟨fun h5 => ?_, fun h5 => ?_⟩
          · rw [if_neg (fun hc => by have := hc.2; omega)] at eb
            exact nxt q V2 _ hq (F.tr F2) eb
          · rw [if_pos ⟨hv, h5⟩] at eb hlo
            exact nxt _ V2 _ hlo (F.tr F2) eb
        · rw [if_neg hv]
          unfold bsS at eb
          rw [if_neg (fun hc => hv hc.1)] at eb
          exact ⟨fun _ => ⟨fun _ => nxt q V1 _ hq F eb, fun h5 => by omega⟩, fun h5 => absurd rfl h5⟩
    have outer : ∀ (n x : Nat) (q : Int × Int) (V1 : xF) (v6 v7 : xV), x + n = 11 → -1 ≤ q.2 → Fr aLp V V1 → bsX p x (-1, -1) = q → RY d 191 8 [vr 382, vr 81, vi b, vi q.1, vi q.2, vi (((x + 1 : Nat)) : Int), v6, v7] [] V1 D (yback d 59 12 [vr 70, vi b] [] Q) := by
      intro n
      induction n with
      | zero =>
        intro x q V1 v6 v7 hx hq F he
        have : x = 11 := by omega
        subst this
        have S1 : St V1 81 p := (F.cor (by decide)).st hS
        have e0 := S1.rooms
        have hQ := h V1 (F.cor (by decide))
        rw [he] at hQ
        refine u_191_8_81 ⟨fun h5 => by omega, fun _ => ⟨fun _ => ⟨fun h6 => u_59_12 ?_, fun h6 => u_59_12 ?_⟩, fun h5 => by omega⟩⟩
        · rw [if_pos h6] at hQ; exact hQ
        · rw [if_neg h6] at hQ; exact hQ
      | succ n ih =>
        intro x q V1 v6 v7 hx hq F he
        have S1 : St V1 81 p := (F.cor (by decide)).st hS
        have e0 := S1.rooms
        refine u_191_8_81 ⟨fun h5 => by omega, fun _ => ⟨fun h5 => by omega, fun _ => ?_⟩⟩
        exact inner 11 0 x q V1 v7 (by omega) (by omega) hq F he (fun V2 q v6 v7 F2 hq2 he2 => ih (x + 1) q V2 v6 v7 (by omega) hq2 F2 he2)
    exact outer 11 0 (-1, -1) V _ _ (by omega) (by decide) Fr.rf rfl
theorem m_pairs {x y : Int} (hW : WF (V 406)) (hv : hvB (V 406) x y) (h : ∀ V', Fr mLk V V' → Q (.inl (some (vi (prsF (V 406) x y)))) V' D) : RY d 192 0 [vr 405, vi x, vi y, vr 0, vr 0, vr 0] [] V D Q := by
  have h3 : 0 ≤ V 406 3 ∧ V 406 3 ≤ 5 := hW.1
  obtain ⟨N, hN⟩ : ∃ N : Nat, V 406 3 = (N : Int) := ⟨(V 406 3).toNat, by omega⟩
  obtain ⟨G, hG⟩ : ∃ G, G = unB (V 406) x y := ⟨_, rfl⟩
  have Gb : ∀ i j, 0 ≤ G i j ∧ G i j ≤ 1 := by rw [hG]; exact unB_b _ _ _
  unfold prsF at h
  rw [← hG, hN, nn_toNat, ← pr_eq G (by omega)] at h
  have g6 : ∀ {V1 : xF}, Fr mLk V V1 → V1 406 = V 406 := fun F => F.at_ 406 (by decide)
  refine u_192_0 ?_
  have inner : ∀ (n j i : Nat) (a : Int) (V1 : xF), j + n = N → i < N → 0 ≤ a ∧ a ≤ 1000 - n → Fr mLk V V1 → (∀ V2 v, Fr mLk V V2 → RY d 192 5 [vr 405, vi x, vi y, vi (a + prJ G i j n), vi (((i + 1 : Nat)) : Int), v] [] V2 D Q) → RY d 192 22 [vr 405, vi x, vi y, vi a, vi (i : Int), vi (j : Int)] [] V1 D Q := by
    intro n
    induction n with
    | zero =>
      intro j i a V1 hj hi ha F hx
      have e := g6 F
      refine u_192_22 ⟨fun _ => ?_, fun h5 => by rw [e] at h5; omega⟩
      rw [wr_id (by omega) (by omega)]
      have := hx V1 (vi (j : Int)) F
      rw [show prJ G i j 0 = 0 from rfl, Int.add_zero] at this
      exact this
    | succ n ih =>
      intro j i a V1 hj hi ha F hx
      have e := g6 F
      have hb := Gb i j
      refine u_192_22 ⟨fun h5 => by rw [e] at h5; omega, fun _ => ?_⟩
      refine m_alike (by rw [e]; exact hW) (by rw [e]; omega) (by rw [e]; omega) (by rw [e]; exact hv i (by omega)) (by rw [e]; exact hv j (by omega)) ?_
      rw [e]
      intro V2 F2
      have ep : prJ G i j (n + 1) = G i j + prJ G i (j + 1) n := rfl
      have := ih (j + 1) i (a + G i j) V2 (by omega) hi (by omega) (F.tr (F2.sub (by decide))) (fun V3 v F3 => by rw [ep, ← Int.add_assoc] at hx; exact hx V3 v F3)
      have eG : G i j = if eqT (hearT (V 406) i x y) (hearT (V 406) j x y) 64 then 0 else 1 := by rw [hG]; rfl
      cases hq : eqT (hearT (V 406) i x y) (hearT (V 406) j x y) 64 with
      | true =>
        rw [hq, if_pos rfl] at eG
        rw [if_pos rfl]
        refine u_192_46 ⟨fun h5 => absurd h5 (by decide), fun _ => ?_⟩
        rw [wr_id (x := (j : Int) + 1) (by omega) (by omega), wr_id (x := a + 0) (by omega) (by omega)]
        rw [eG] at this
        exact this
      | false =>
        rw [hq, if_neg (by decide)] at eG
        rw [if_neg (by decide)]
        refine u_192_46 ⟨fun _ => ?_, fun h5 => absurd rfl h5⟩
        rw [wr_id (x := (j : Int) + 1) (by omega) (by omega), wr_id (x := a + 1) (by omega) (by omega)]
        rw [eG] at this
        exact this
  have outer : ∀ (n i : Nat) (a : Int) (V1 : xF) (v : xV), i + n = N → 0 ≤ a ∧ a ≤ 10 * (i : Int) → a + prM G N i n = prM G N 0 N → Fr mLk V V1 → RY d 192 5 [vr 405, vi x, vi y, vi a, vi (i : Int), v] [] V1 D Q := by
    intro n
    induction n with
    | zero =>
      intro i a V1 v hi ha he F
      have e := g6 F
      have e0 : prM G N i 0 = 0 := rfl
      rw [← he, e0, Int.add_zero] at h
      exact u_192_5 ⟨fun _ => h V1 F, fun h5 => by rw [e] at h5; omega⟩
    | succ n ih =>
      intro i a V1 v hi ha he F
      have e := g6 F
      have e1 : prM G N i (n + 1) = prJ G i (i + 1) (N - (i + 1)) + prM G N (i + 1) n := rfl
      have hb := prJ_b Gb (N - (i + 1)) i (i + 1)
      refine u_192_5 ⟨fun h5 => by rw [e] at h5; omega, fun _ => ?_⟩
      rw [wr_id (by omega) (by omega)]
      exact inner (N - (i + 1)) (i + 1) i a V1 (by omega) (by omega) (by omega) F (fun V2 v F2 => ih (i + 1) _ V2 v (by omega) (by omega) (by rw [← he, e1]; omega) F2)
  exact outer N 0 0 V _ (by omega) (by omega) (by omega) Fr.rf
/-- places beyond are none of all -/
theorem bsY_far {x : Int} {q : Int × Int} {a : Nat} (h : ∀ y : Int, (a : Int) < y → ¬ hvB p x y) : ∀ k : Nat, bsY p x (a + k) q = bsY p x a q
  | 0 => rfl
  | k + 1 => by
    show bsS p (bsY p x (a + k) q) x ((a + k + 1 : Nat) : Int) = _
    unfold bsS
    rw [if_neg (fun hc => h _ (by omega) hc.1)]
    exact bsY_far h k
theorem bsX_far {q : Int × Int} {a : Nat} (h : ∀ x y : Int, (a : Int) < x → ¬ hvB p x y) : ∀ k : Nat, bsX p (a + k) q = bsX p a q
  | 0 => rfl
  | k + 1 => by
    show bsY p ((a + k + 1 : Nat) : Int) 11 (bsX p (a + k) q) = _
    have := bsY_far (p := p) (x := ((a + k + 1 : Nat) : Int)) (q := bsX p (a + k) q) (a := 0) (fun y _ => h _ y (by omega)) 11
    rw [show 0 + 11 = 11 by omega] at this
    rw [this]
    exact bsX_far h k
theorem ma_best {b : Int} (hW : WF (V 406)) (h : ∀ V', V' 405 0 = 0 → Cor V V' → Q (.inl (some (vi (bestF (V 406) b)))) V' D) : RY d 60 0 [vr 405, vi b, vr 0, vr 0, vr 0, vr 0, vr 0, vr 0, vr 0] [] V D Q := by
  refine u_60_0 ?_
  rintro V0 hV0
  have e6 : V0 406 = V 406 := by rw [hV0]; exact v405.2.1
  have t0 : V0 405 0 = 0 := by rw [hV0]; exact v405.1
  have C0 : Cor V V0 := by rw [hV0]; exact v405.2.2
  clear hV0
  obtain ⟨p, hp⟩ : ∃ p, p = V0 406 := ⟨_, rfl⟩
  have hq : ∀ V', Fr mLk V0 V' → Q (.inl (some (vi (bestF p b)))) V' D := fun V' F => by rw [hp, e6]; exact h V' (by rw [F.at_ 405 (by decide)]; exact t0) (C0.tr (F.cor (by decide)))
  rw [← e6] at hW
  clear h
  rw [← hp] at hW ⊢
  have h3 : 0 ≤ p 3 ∧ p 3 ≤ 5 := hW.1
  unfold bestF at hq
  refine ⟨fun h0 => ?_, fun h0 => by have := hq V0 Fr.rf; rw [if_pos h0] at this; exact this⟩
  simp only [if_neg h0] at hq
  have g6 : ∀ {V1 : xF}, Fr mLk V0 V1 → V1 406 = p := fun F => by rw [F.at_ 406 (by decide), hp]
  -- the least width and depth
  have mins : ∀ (n k : Nat) (w dd : Int), (k : Int) + n = p 3 → (2 ≤ w ∧ w ≤ 12) → (2 ≤ dd ∧ dd ≤ 12) → (∀ x y : Int, x ≤ 11 → y ≤ 11 → 1 ≤ x → 1 ≤ y → ((x < w ∧ y < dd) ↔ ∀ r : Nat, r < k → isPl p r x y)) → (∀ w dd, (2 ≤ w ∧ w ≤ 12) → (2 ≤ dd ∧ dd ≤ 12) → (∀ x y : Int, x ≤ 11 → y ≤ 11 → 1 ≤ x → 1 ≤ y → ((x < w ∧ y < dd) ↔ hvB p x y)) → RY d 60 75 [vr 405, vi b, vi w, vi dd, vi (-1), vi (-1), vi 1, vr 0, vr 0] [] V0 D Q) → RY d 60 25 [vr 405, vi b, vi w, vi dd, vi (k : Int), vr 0, vr 0, vr 0, vr 0] [] V0 D Q := by
    intro n
    induction n with
    | zero =>
      intro k w dd hk hw hd hall hx
      refine u_60_25 ⟨fun _ => hx w dd hw hd (fun x y h1 h2 h3 h4 => ?_), fun h5 => by rw [← hp] at h5; omega⟩
      rw [hall x y h1 h2 h3 h4]
      exact ⟨fun hh r hr => hh r (by omega), fun hh r hr => hh r (by omega)⟩
    | succ n ih =>
      intro k w dd hk hw hd hall hx
      have hr : (k : Int) < p 3 := by omega
      obtain ⟨r5, hwk, hdk⟩ := hW.room hr
      refine u_60_25 ⟨fun h5 => by rw [← hp] at h5; omega, fun _ => ⟨yg133 r5 (by omega), yg133 r5 (by omega), ?_⟩⟩
      rw [yr133_0 r5, yr133_1 r5, ← hp, wr_id (by omega) (by omega)]
      have ew : yr_169 w (rW p k) V0 D = if w < rW p k then w else rW p k := rfl
      have ed : yr_169 dd (rD p k) V0 D = if dd < rD p k then dd else rD p k := rfl
      rw [ew, ed]
      refine ih (k + 1) _ _ (by omega) (by split <;> omega) (by split <;> omega) (fun x y h1 h2 h3 h4 => ?_) hx
      have := hall x y h1 h2 h3 h4
      constructor
      · intro hh r hr2
        by_cases e : r = k
        · subst e; unfold isPl; (repeat' split at hh) <;> omega
        · exact this.mp (by (repeat' split at hh) <;> omega) r (by omega)
      · intro hh
        have a1 := this.mpr (fun r hr2 => hh r (by omega))
        have a2 := hh k (by omega)
        unfold isPl at a2
        (repeat' split) <;> omega
  refine mins (p 3).toNat 0 12 12 (by omega) (by omega) (by omega) (fun x y h1 h2 h3 h4 => ⟨fun _ r hr => by omega, fun _ => by omega⟩) ?_
  intro w dd hw hd hv
  have farY : ∀ x : Int, (1 ≤ x ∧ x ≤ 11) → ∀ y : Int, ((dd - 1).toNat : Int) < y → ¬ hvB p x y := by
    intro x hx y hy hc
    have := hc 0 (by omega)
    have hr := hW.room (r := 0) (by omega)
    unfold isPl at this
    by_cases hy2 : y ≤ 11
    · have := (hv x y hx.2 hy2 hx.1 (by omega)).mpr hc
      omega
    · have := hr.2.2
      omega
  have farX : ∀ x y : Int, ((w - 1).toNat : Int) < x → ¬ hvB p x y := by
    intro x y hx hc
    have h0 := hc 0 (by omega)
    have hr := hW.room (r := 0) (by omega)
    have := hr.2
    unfold isPl at h0
    have := (hv x y (by omega) (by omega) (by omega) (by omega)).mpr hc
    omega
  have inner : ∀ (n y x : Nat) (q : Int × Int) (V1 : xF) (v8 : xV), ((y : Int) + n = dd - 1) → ((x : Int) + 1 < w) → Fr mLk V0 V1 → bsY p (((x + 1 : Nat)) : Int) y (bsX p x (-1, -1)) = q → (∀ V2 q v7 v8, Fr mLk V0 V2 → bsX p (x + 1) (-1, -1) = q → RY d 60 75 [vr 405, vi b, vi w, vi dd, vi q.1, vi q.2, vi (((x + 2 : Nat)) : Int), v7, v8] [] V2 D Q) → RY d 60 84 [vr 405, vi b, vi w, vi dd, vi q.1, vi q.2, vi (((x + 1 : Nat)) : Int), vi (((y + 1 : Nat)) : Int), v8] [] V1 D Q := by
    intro n
    induction n with
    | zero =>
      intro y x q V1 v8 hy hx F he hx2
      refine u_60_84 ⟨fun _ => ?_, fun h5 => by omega⟩
      rw [wr_id (by omega) (by omega)]
      refine hx2 V1 q _ _ F ?_
      have := bsY_far (q := bsX p x (-1, -1)) (farY (((x + 1 : Nat)) : Int) (by omega)) (11 - (dd - 1).toNat)
      rw [show (dd - 1).toNat + (11 - (dd - 1).toNat) = 11 by omega, show (dd - 1).toNat = y by omega, he] at this
      exact this
    | succ n ih =>
      intro y x q V1 v8 hy hx F he hx2
      have hv1 : hvB p (((x + 1 : Nat)) : Int) (((y + 1 : Nat)) : Int) := (hv _ _ (by omega) (by omega) (by omega) (by omega)).mp ⟨by omega, by omega⟩
      have e := g6 F
      refine u_60_84 ⟨fun h5 => by omega, fun _ => ?_⟩
      refine m_pairs (by rw [e]; exact hW) (by rw [e]; exact hv1) ?_
      rw [e]
      intro V2 F2
      have eb : bsY p (((x + 1 : Nat)) : Int) (y + 1) (bsX p x (-1, -1)) = bsS p q (((x + 1 : Nat)) : Int) (((y + 1 : Nat)) : Int) := by rw [← he]; rfl
      have ey : wr ((((y + 1 : Nat)) : Int) + 1) = (((y + 1 + 1 : Nat)) : Int) := by rw [wr_id (by omega) (by omega)]; omega
      unfold bsS at eb
      refine u_60_98 ⟨fun h5 => ?_, fun h5 => ?_⟩
      · rw [if_pos ⟨hv1, h5⟩] at eb
        rw [ey, wr_id (x := 16 * (((x + 1 : Nat)) : Int)) (by omega) (by omega), wr_id (by omega) (by omega)]
        exact ih (y + 1) x _ V2 _ (by omega) hx (F.tr F2) eb hx2
      · rw [if_neg (fun hc => by have := hc.2; omega)] at eb
        rw [ey]
        exact ih (y + 1) x q V2 _ (by omega) hx (F.tr F2) eb hx2
  have outer : ∀ (n x : Nat) (q : Int × Int) (V1 : xF) (v7 v8 : xV), ((x : Int) + n = w - 1) → Fr mLk V0 V1 → bsX p x (-1, -1) = q → RY d 60 75 [vr 405, vi b, vi w, vi dd, vi q.1, vi q.2, vi (((x + 1 : Nat)) : Int), v7, v8] [] V1 D Q := by
    intro n
    induction n with
    | zero =>
      intro x q V1 v7 v8 hx F he
      have := bsX_far (q := (-1, -1)) farX (11 - (w - 1).toNat)
      rw [show (w - 1).toNat + (11 - (w - 1).toNat) = 11 by omega, show (w - 1).toNat = x by omega, he] at this
      have hQ := hq V1 F
      rw [this] at hQ
      refine u_60_75 ⟨fun _ => ⟨fun h6 => ?_, fun h6 => ?_⟩, fun h5 => by omega⟩
      · rw [if_pos h6] at hQ; exact hQ
      · rw [if_neg h6] at hQ; exact hQ
    | succ n ih =>
      intro x q V1 v7 v8 hx F he
      refine u_60_75 ⟨fun h5 => by omega, fun _ => ?_⟩
      exact inner (dd - 1).toNat 0 x q V1 v8 (by omega) (by omega) F he (fun V2 q v7 v8 F2 he2 => ih (x + 1) q V2 v7 v8 (by omega) F2 he2)
  exact outer (w - 1).toNat 0 (-1, -1) V0 _ _ (by omega) Fr.rf rfl
end TWINS
