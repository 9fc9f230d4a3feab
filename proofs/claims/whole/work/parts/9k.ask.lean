/-! ===== ASK: THE STEP THAT TELLS THE MOST ===== -/
/-- is there a place a step away, and which one -/
def nbB (p : Rw) (r : Nat) (k : Int) (n : Nat) : Bool := decide ((1 ≤ pX p r n + sdX k ∧ pX p r n + sdX k < rW p r) ∧ (1 ≤ pY p r n + sdY k ∧ pY p r n + sdY k < rD p r))
def nbN (p : Rw) (r : Nat) (k : Int) (n : Nat) : Nat := (pY p r n + sdY k - 1).toNat + (pX p r n + sdX k - 1).toNat * prow p r
/-- whether a step leads to what sounds alike -/
def samB (p : Rw) (r : Nat) (k : Int) (n i : Nat) : Bool := decide (nbB p r k n = nbB p r k i) && (!nbB p r k n || eqT (hP p r (nbN p r k n)) (hP p r (nbN p r k i)) 64)
def smF (g : Nat → Bool) (p : Rw) (r : Nat) (k : Int) (n : Nat) : Int := cntB (fun i => g i && samB p r k n i) (pN p r)
/-- the greatest of those of which it holds -/
def mxF (g : Nat → Bool) (c : Nat → Int) : Nat → Int
  | 0 => 0
  | n + 1 => if g n = true ∧ mxF g c n < c n then c n else mxF g c n
def gpF (g : Nat → Bool) (p : Rw) (r : Nat) (k : Int) : Int := mxF g (smF g p r k) (pN p r)
/-- the first of the least -/
def lstB (z : Int) (g : Nat → Int) : Nat → Int × Int
  | 0 => (-1, z)
  | k + 1 => if g k < (lstB z g k).2 then ((k : Int), g k) else lstB z g k
def askP (p : Rw) (r : Nat) (b : Nat → Int) (m : Nat) : Int := if cntB (fitP p r b m) (pN p r) < 2 then -1 else (lstB 2000000000 (fun k => gpF (fitP p r b m) p r (k : Int)) 4).1
def isMx (g : Nat → Bool) (c : Nat → Int) (N : Nat) (x : Int) : Prop := 0 ≤ x ∧ (∀ i, i < N → g i = true → c i ≤ x) ∧ (x = 0 ∨ ∃ i, i < N ∧ g i = true ∧ c i = x)
theorem mxF_is {g : Nat → Bool} {c : Nat → Int} : ∀ N : Nat, isMx g c N (mxF g c N)
  | 0 => ⟨Int.le_refl _, fun i hi => absurd hi (Nat.not_lt_zero i), Or.inl rfl⟩
  | n + 1 => by
    obtain ⟨a, b, e⟩ := mxF_is (g := g) (c := c) n
    unfold mxF
    by_cases h : g n = true ∧ mxF g c n < c n
    · rw [if_pos h]
      refine ⟨by omega, fun i hi hg => ?_, Or.inr ⟨n, by omega, h.1, rfl⟩⟩
      by_cases e2 : i = n
      · subst e2; exact Int.le_refl _
      · have := b i (by omega) hg
        omega
    · rw [if_neg h]
      refine ⟨a, fun i hi hg => ?_, ?_⟩
      · by_cases e2 : i = n
        · subst e2
          exact Int.not_lt.mp (fun hc => h ⟨hg, hc⟩)
        · exact b i (by omega) hg
      · rcases e with e | ⟨i, h1, h2, h3⟩
        · exact Or.inl e
        · exact Or.inr ⟨i, by omega, h2, h3⟩
theorem isMx_uni {g : Nat → Bool} {c : Nat → Int} {N : Nat} {x y : Int} (h : isMx g c N x) (h' : isMx g c N y) : x = y := by
  obtain ⟨a1, a2, a3⟩ := h
  obtain ⟨b1, b2, b3⟩ := h'
  have h1 : x ≤ y := by
    rcases a3 with e | ⟨i, e1, e2, e3⟩
    · omega
    · have := b2 i e1 e2
      omega
  have h2 : y ≤ x := by
    rcases b3 with e | ⟨i, e1, e2, e3⟩
    · omega
    · have := a2 i e1 e2
      omega
  omega
theorem cntB_c {f g : Nat → Bool} : ∀ {n : Nat}, (∀ i, i < n → f i = g i) → cntB f n = cntB g n
  | 0, _ => rfl
  | n + 1, h => by unfold cntB; rw [cntB_c (fun i hi => h i (by omega)), h n (by omega)]
theorem lstB_z {z z' : Int} {g : Nat → Int} (h : g 0 < z) (h' : g 0 < z') : ∀ k : Nat, lstB z g (k + 1) = lstB z' g (k + 1)
  | 0 => by
    show (if g 0 < z then (((0 : Nat) : Int), g 0) else lstB z g 0) = (if g 0 < z' then (((0 : Nat) : Int), g 0) else lstB z' g 0)
    rw [if_pos h, if_pos h']
  | k + 1 => by
    show (if g (k + 1) < (lstB z g (k + 1)).2 then (((k + 1 : Nat) : Int), g (k + 1)) else lstB z g (k + 1)) = (if g (k + 1) < (lstB z' g (k + 1)).2 then (((k + 1 : Nat) : Int), g (k + 1)) else lstB z' g (k + 1))
    rw [lstB_z h h' k]
/-- the first place that sounds so -/
def ptP (p : Rw) (r n : Nat) : Nat := (fstB (fun k => eqT (hP p r k) (hP p r n) 48) (n + 1)).toNat
theorem eqT_rf {f : Nat → Int} {n : Nat} : eqT f f n = true := eqT_iff.mpr fun _ _ => rfl
theorem ptP_is (p : Rw) (r n : Nat) : ptP p r n ≤ n ∧ eqT (hP p r (ptP p r n)) (hP p r n) 48 = true ∧ ∀ k, k < ptP p r n → eqT (hP p r k) (hP p r n) 48 = false := by
  unfold ptP
  rcases fstB_spec (fun k => eqT (hP p r k) (hP p r n) 48) (n + 1) with ⟨-, h⟩ | ⟨m, h1, h2, h3, h4⟩
  · have h9 : eqT (hP p r n) (hP p r n) 48 = false := h n (by omega)
    rw [eqT_rf] at h9
    cases h9
  · rw [h1, nn_toNat]
    exact ⟨by omega, h3, h4⟩
theorem ptP_eq {p : Rw} {r a b : Nat} : ptP p r a = ptP p r b ↔ eqT (hP p r a) (hP p r b) 48 = true := by
  obtain ⟨a1, a2, a3⟩ := ptP_is p r a
  obtain ⟨b1, b2, b3⟩ := ptP_is p r b
  constructor
  · intro h
    rw [h] at a2
    exact eqT_iff.mpr fun t ht => (eqT_iff.mp a2 t ht).symm.trans (eqT_iff.mp b2 t ht)
  · intro h
    rcases Nat.lt_trichotomy (ptP p r a) (ptP p r b) with e | e | e
    · have h9 := b3 _ e
      rw [eqT_iff.mpr fun t ht => (eqT_iff.mp a2 t ht).trans (eqT_iff.mp h t ht)] at h9
      cases h9
    · exact e
    · have h9 := a3 _ e
      rw [eqT_iff.mpr fun t ht => (eqT_iff.mp b2 t ht).trans (eqT_iff.mp h t ht).symm] at h9
      cases h9
theorem ptP_pt {p : Rw} {r n : Nat} : ptP p r (ptP p r n) = ptP p r n := ptP_eq.mpr (ptP_is p r n).2.1
def kyN (p : Rw) (r : Nat) (k : Int) (n : Nat) : Nat := if nbB p r k n = true then ptP p r (nbN p r k n) else 121
section ASK
variable {d : Nat} {V : xF} {D : yD} {Q : xRes → xF → yD → Prop} {p : Rw} {b : Nat → Int}
theorem nb_is (hW : WF p) {r n : Nat} (hr : (r : Int) < p 3) {k : Int} (h : nbB p r k n = true) : nbN p r k n < pN p r ∧ pX p r (nbN p r k n) = pX p r n + sdX k ∧ pY p r (nbN p r k n) = pY p r n + sdY k := by
  unfold nbB at h
  have h := of_decide_eq_true h
  obtain ⟨hr5, hw, hd⟩ := hW.room hr
  have ep : (prow p r : Int) = rD p r - 1 := by unfold prow; omega
  have hix := pl_ix (p := p) (r := r) (a := (pX p r n + sdX k - 1).toNat) (b := (pY p r n + sdY k - 1).toNat) (by omega)
  unfold nbN
  refine ⟨?_, ?_, ?_⟩
  · unfold pN
    have h3 : ((pX p r n + sdX k - 1).toNat + 1) * prow p r ≤ (rW p r - 1).toNat * prow p r := Nat.mul_le_mul_right _ (by omega)
    rw [Nat.add_mul, Nat.one_mul] at h3
    omega
  · rw [hix.1]; omega
  · rw [hix.2]; omega
theorem ky_lt (hW : WF p) {r n : Nat} (hr : (r : Int) < p 3) {k : Int} : kyN p r k n < 122 := by
  have hb := pl_b hW hr
  unfold kyN
  by_cases h : nbB p r k n = true
  · rw [if_pos h]
    have := (ptP_is p r (nbN p r k n)).1
    have := (nb_is hW hr h).1
    omega
  · rw [if_neg h]; omega
theorem sam_ky (hW : WF p) {r : Nat} (hr : (r : Int) < p 3) {k : Int} {n i : Nat} : samB p r k n i = decide (kyN p r k i = kyN p r k n) := by
  have hb := pl_b hW hr
  have f : ∀ j, nbB p r k j = true → ptP p r (nbN p r k j) < 121 := fun j hj => by
    have := (ptP_is p r (nbN p r k j)).1
    have := (nb_is hW hr hj).1
    omega
  unfold samB kyN
  by_cases h1 : nbB p r k n = true
  · have q1 := f n h1
    by_cases h2 : nbB p r k i = true
    · have e3 : eqT (hP p r (nbN p r k n)) (hP p r (nbN p r k i)) 64 = eqT (hP p r (nbN p r k n)) (hP p r (nbN p r k i)) 48 := eqT_hi 16 (fun t ht => by rw [plA_hi hW hr (nb_is hW hr h1).1 ht, plA_hi hW hr (nb_is hW hr h2).1 ht])
      rw [if_pos h1, if_pos h2, h1, h2, e3, Bool.eq_iff_iff, decide_eq_true_iff, eq_comm (a := ptP p r (nbN p r k i)), ptP_eq]
      simp
    · have q2 : ¬ (121 = ptP p r (nbN p r k n)) := by omega
      rw [if_pos h1, if_neg h2, h1, Bool.eq_false_iff.mpr h2, decide_eq_false q2]
      simp
  · by_cases h2 : nbB p r k i = true
    · have q2 : ¬ (ptP p r (nbN p r k i) = 121) := by have := f i h2; omega
      rw [if_neg h1, if_pos h2, h2, Bool.eq_false_iff.mpr h1, decide_eq_false q2]
      simp
    · rw [if_neg h1, if_neg h2, Bool.eq_false_iff.mpr h1, Bool.eq_false_iff.mpr h2]
      simp
theorem c_partOf {r n : Nat} (hn : n < 121) (hA : ∀ i, i ≤ n → ∀ t, t < 48 → V (258 + i) t = hP p r i t) (hT : ∀ i, i < n → V 379 i = (ptP p r i : Int)) (h : Q (.inl (some (vi (ptP p r n : Int)))) V D) : RY d 330 0 [vr 256, vi (n : Int), vr 0] [] V D Q := by
  obtain ⟨a1, a2, a3⟩ := ptP_is p r n
  refine u_330_0 ?_
  have go : ∀ (c k : Nat), k + c = n → k ≤ ptP p r n → RY d 330 2 [vr 256, vi (n : Int), vi (k : Int)] [] V D Q := by
    intro c
    induction c with
    | zero =>
      intro k hk hle
      refine u_330_2 ⟨fun _ => ?_, fun hlt => by omega⟩
      rw [show ptP p r n = n by omega] at h
      exact h
    | succ c ih =>
      intro k hk hle
      have nxt : k ≠ ptP p r n → RY d 330 2 [vr 256, vi (n : Int), vi (wr ((k : Int) + 1))] [] V D Q := fun hne => by
        rw [wr_id (by omega) (by omega)]
        exact ih (k + 1) (by omega) (by omega)
      refine u_330_2 ⟨fun hle2 => by omega, fun _ => ⟨by omega, ?_⟩⟩
      rw [nn_toNat, nn_toNat, hT k (by omega), yR257 (show k < 121 by omega), yR257 hn]
      refine ⟨fun hne => nxt (fun e => hne ?_), fun he => ?_⟩
      · rw [e, ptP_pt]
      · refine ⟨K257, by omega, by omega, ?_⟩
        rintro q1 rfl
        refine ⟨K257, by omega, by omega, ?_⟩
        rintro q2 rfl
        refine c_unlike (f := hP p r k) (g := hP p r n) (Or.inr (Or.inr (Or.inl ⟨by omega, by omega⟩))) (Or.inr (Or.inr (Or.inl ⟨by omega, by omega⟩))) (hA k (by omega)) (hA n (Nat.le_refl _)) ?_
        show RY d 330 32 _ _ V D Q
        refine u_330_32 ⟨fun hz => nxt (fun e => ?_), fun hz => ?_⟩
        · rw [e, if_pos a2] at hz
          exact hz rfl
        · have hk2 : k = ptP p r n := by
            apply Classical.byContradiction
            intro hne
            have h9 := a3 k (by omega)
            rw [if_neg (by rw [h9]; decide)] at hz
            exact absurd hz (by decide)
          rw [← hk2] at h
          exact h
  exact go n 0 (by omega) (Nat.zero_le _)
theorem c_greatest {r : Nat} {s : Int} {g : Nat → Bool} (hS : St V 81 p) (hW : WF p) (hr : (r : Int) < p 3) (hF : ∀ i, i < pN p r → V 380 i = if g i = true then 1 else 0) (hT : ∀ i, i < pN p r → V 379 i = (ptP p r i : Int))
    (h : ∀ V', Fr [381] V V' → Q (.inl (some (vi (gpF g p r s)))) V' D) : RY d 331 0 [vr 256, vr 81, vi (r : Int), vi s, vr 0, vr 0, vr 0, vr 0] [] V D Q := by
  have hb := pl_b hW hr
  obtain ⟨r5, hw, hd⟩ := hW.room hr
  have ep : (prow p r : Int) = rD p r - 1 := by unfold prow; omega
  refine u_331_0_81 (c_fill (q := 381) (n := 122) (by decide) rfl (by decide) fun V1 hz F1 => ?_)
  show RY d 331 11 _ _ V1 D Q
  refine u_331_11_81 ?_
  have go : ∀ (c n : Nat) (x : Int) (V2 : xF) (v6 v7 : xV), n + c = pN p r → Fr [381] V V2 → (∀ q, q < 122 → V2 381 q = cntB (fun i => g i && decide (kyN p r s i = q)) n) → 0 ≤ x → (∀ q, q < 122 → V2 381 q ≤ x) → (x = 0 ∨ ∃ i, i < n ∧ g i = true ∧ V2 381 (kyN p r s i) = x) → RY d 331 14 [vr 256, vr 81, vi (r : Int), vi s, vi x, vi (n : Int), v6, v7] [] V2 D Q := by
    intro c
    induction c with
    | zero =>
      intro n x V2 v6 v7 hn F hc h0 h1 h2
      have hn : n = pN p r := by omega
      subst hn
      have S2 := hS.keep (V' := V2) fun k hk => F _ (by simp; omega)
      refine u_331_14_81 ⟨yg314 r5, ?_⟩
      rw [yr314 S2 hW hr]
      refine ⟨fun _ => ?_, fun hlt => absurd hlt (Int.lt_irrefl _)⟩
      have E : ∀ i, smF g p r s i = V2 381 (kyN p r s i) := fun i => by
        rw [hc _ (ky_lt hW hr)]
        exact cntB_c fun j _ => by rw [sam_ky hW hr]
      have ex : x = gpF g p r s := by
        refine isMx_uni ⟨h0, fun i _ _ => ?_, ?_⟩ (mxF_is _)
        · rw [E]; exact h1 _ (ky_lt hW hr)
        · rcases h2 with h2 | ⟨i, i1, i2, i3⟩
          · exact Or.inl h2
          · exact Or.inr ⟨i, i1, i2, by rw [E]; exact i3⟩
      rw [ex]
      exact h V2 F
    | succ c ih =>
      intro n x V2 v6 v7 hn F hc h0 h1 h2
      have hn' : n < pN p r := by omega
      have S2 := hS.keep (V' := V2) fun k hk => F _ (by simp; omega)
      have e1 : wr ((n : Int) + 1) = ((n + 1 : Nat) : Int) := by rw [wr_id (by omega) (by omega)]; omega
      refine u_331_14_81 ⟨yg314 r5, ?_⟩
      rw [yr314 S2 hW hr, nn_toNat, F.at_ 380 (by decide), hF n hn', e1]
      refine ⟨fun hle => by clear e1; omega, fun _ => ⟨by clear e1; omega, ?_⟩⟩
      cases hg : g n with
      | false =>
        refine ⟨fun _ => ih (n + 1) x V2 v6 v7 (by clear e1; omega) F (fun q hq => ?_) h0 h1 ?_, fun hne => absurd rfl hne⟩
        · rw [hc q hq]
          show _ = cntB _ n + (if (g n && decide (kyN p r s n = q)) = true then 1 else 0)
          rw [hg]
          simp
        · rcases h2 with h2 | ⟨i, i1, i2, i3⟩
          · exact Or.inl h2
          · exact Or.inr ⟨i, by clear e1; omega, i2, i3⟩
      | true =>
        refine ⟨fun he => absurd he (by decide), fun _ => ⟨(yr315 S2 hW hr hn').1, ?_⟩⟩
        rw [(yr315 S2 hW hr hn').2]
        have hp := pl_at hW hr hn'
        refine c_beside (x := pX p r n) (y := pY p r n) S2 hW hr hp.1 hp.2 ?_
        show RY d 331 47 _ _ V2 D Q
        obtain ⟨K, hK⟩ : ∃ K, K = kyN p r s n := ⟨_, rfl⟩
        have hK2 : K < 122 := by rw [hK]; exact ky_lt hW hr
        have hbd := cntB_b (fun i => g i && decide (kyN p r s i = K)) n
        have hcK := hc K hK2
        have e2 : wr (V2 381 K + 1) = V2 381 K + 1 := wr_id (by clear e1; omega) (by clear e1; omega)
        have step : ∀ (V3 : xF) (v6 v7 : xV), V3 = up2 V2 381 K (wr (V2 381 K + 1)) → RY d 331 14 [vr 256, vr 81, vi (r : Int), vi s, vi (yr_292 x (V3 381 K) V3 D), vi ((n + 1 : Nat) : Int), v6, v7] [] V3 D Q := by
          intro V3 v6 v7 hV3
          rw [e2] at hV3
          have e3 : V3 381 K = V2 381 K + 1 := by rw [hV3, up2_at]
          have oth : ∀ q, q ≠ K → V3 381 q = V2 381 q := fun q hq => by rw [hV3, up2_ni hq]
          have e4 : yr_292 x (V3 381 K) V3 D = if x < V2 381 K + 1 then V2 381 K + 1 else x := by unfold yr_292; rw [e3]
          rw [e4]
          clear e1 e2 e4
          refine ih (n + 1) _ V3 v6 v7 (by omega) (F.tr (by rw [hV3]; exact Fr.up (by decide))) (fun q hq => ?_) (by split <;> omega) (fun q hq => ?_) ?_
          · show _ = cntB _ n + (if (g n && decide (kyN p r s n = q)) = true then 1 else 0)
            by_cases e : q = K
            · rw [e, e3, hcK, hg, ← hK]
              simp
            · have e5 : ¬ (K = q) := fun h9 => e h9.symm
              rw [oth q e, hc q hq, hg, ← hK, decide_eq_false e5]
              simp
          · by_cases e : q = K
            · rw [e, e3]; split <;> omega
            · rw [oth q e]
              have := h1 q hq
              split <;> omega
          · by_cases hx : x < V2 381 K + 1
            · rw [if_pos hx]
              exact Or.inr ⟨n, by omega, hg, by rw [← hK]; exact e3⟩
            · rw [if_neg hx]
              rcases h2 with h2 | ⟨i, i1, i2, i3⟩
              · exact Or.inl h2
              · refine Or.inr ⟨i, by omega, i2, ?_⟩
                by_cases e : kyN p r s i = K
                · rw [e] at i3; omega
                · rw [oth _ e]; exact i3
        by_cases hnb : (1 ≤ pX p r n + sdX s ∧ pX p r n + sdX s < rW p r) ∧ (1 ≤ pY p r n + sdY s ∧ pY p r n + sdY s < rD p r)
        · rw [if_pos hnb]
          have hB : nbB p r s n = true := decide_eq_true hnb
          have hnb2 := nb_is hW hr hB
          have eK : K = ptP p r (nbN p r s n) := by rw [hK]; unfold kyN; rw [if_pos hB]
          have hsd := sd_b s
          have e83 : V2 83 r = rD p r := S2.2.2.1 r r5
          have eN : yr_368_81 (r : Int) (16 * (pX p r n + sdX s) + (pY p r n + sdY s)) V2 D = ((nbN p r s n : Nat) : Int) := by
            clear e1 e2
            unfold yr_368_81 nbN
            rw [nn_toNat, e83, tdiv_nn (by omega), tmod_nn (by omega), show (16 * (pX p r n + sdX s) + (pY p r n + sdY s)) / 16 = pX p r n + sdX s by omega, show (16 * (pX p r n + sdX s) + (pY p r n + sdY s)) % 16 = pY p r n + sdY s by omega,
              wr_id (x := pX p r n + sdX s) (by omega) (by omega), wr_id (x := pX p r n + sdX s - 1) (by omega) (by omega), wr_id (x := rD p r - 1) (by omega) (by omega), ← ep]
            obtain ⟨A, hA⟩ : ∃ A : Nat, pX p r n + sdX s - 1 = (A : Int) := ⟨(pX p r n + sdX s - 1).toNat, by omega⟩
            obtain ⟨B, hB⟩ : ∃ B : Nat, pY p r n + sdY s = ((B + 1 : Nat) : Int) := ⟨(pY p r n + sdY s - 1).toNat, by omega⟩
            have hAP : A * prow p r ≤ 11 * 11 := Nat.mul_le_mul (by omega) (by omega)
            rw [hA, hB, nn_toNat, show (((B + 1 : Nat) : Int) - 1).toNat = B by omega]
            have hc2 : ((A : Int) * (prow p r : Int)) = ((A * prow p r : Nat) : Int) := by push_cast; rfl
            rw [hc2, wr_id (x := ((A * prow p r : Nat) : Int)) (by omega) (by omega), wr_id (x := ((A * prow p r : Nat) : Int) + ((B + 1 : Nat) : Int)) (by omega) (by omega), wr_id (by omega) (by omega)]
            omega
          refine u_331_47_81 ⟨fun _ => ?_, fun he => by clear e1 e2; omega⟩
          rw [eN, nn_toNat, F.at_ 379 (by decide), hT _ hnb2.1, ← eK, nn_toNat, e1]
          clear e1 eN
          refine ⟨by unfold yg_368_81; omega, by omega, by omega, by omega, fun V3 hV3 => ⟨by omega, step V3 _ _ hV3⟩⟩
        · rw [if_neg hnb]
          have eK : K = 121 := by
            rw [hK]; unfold kyN
            rw [if_neg (show ¬ nbB p r s n = true from fun hc => hnb (of_decide_eq_true hc))]
          refine u_331_47_81 ⟨fun he => absurd rfl he, fun _ => ⟨by decide, by decide, fun V3 hV3 => ⟨by decide, ?_⟩⟩⟩
          rw [e1]
          rw [eK] at step
          exact step V3 _ _ hV3
  refine go (pN p r) 0 0 V1 _ _ (by omega) F1 (fun q hq => hz q hq) (Int.le_refl _) (fun q hq => by rw [hz q hq]; exact Int.le_refl _) (Or.inl rfl)
theorem c_bestStep {r m : Nat} (hS : St V 81 p) (hB : V 2 = xback5) (hW : WF p) (hr : (r : Int) < p 3) (hT : Told b m D.1) (hb : ∀ j, j < m → 1 ≤ b (2 * j) ∧ b (2 * j) ≤ 63)
    (h : ∀ V', Cor V V' → Q (.inl (some (vi (askP p r b m)))) V' D) : RY d 271 0 [vr 256, vr 81, vi (r : Int), vr 76, vr 0, vr 0, vr 0, vr 0, vr 0, vr 0] [] V D Q := by
  have hb' := pl_b hW hr
  have hr5 := (hW.room hr).1
  obtain ⟨g, hg⟩ : ∃ g, g = fitP p r b m := ⟨_, rfl⟩
  unfold askP at h
  rw [← hg] at h
  refine u_271_0_81 ⟨yg314 hr5, c_hearAll hS hB hW hr fun V1 hA F => ?_⟩
  show RY d 271 16 _ _ V1 D Q
  rw [yr314 hS hW hr]
  have C := aLR_cor F
  refine u_271_16_81 ?_
  have tail : ∀ (V2 : xF) (v9 : xV), Fr [379, 380, 381] V1 V2 → (∀ i, i < pN p r → V2 380 i = if g i = true then 1 else 0) → (∀ i, i < pN p r → V2 379 i = (ptP p r i : Int)) → 2 ≤ cntB g (pN p r) →
      RY d 271 103 [vr 256, vr 81, vi (r : Int), vr 76, vi (pN p r : Int), vi (cntB g (pN p r)), vi (-1), vi (cntB g (pN p r) + 1), vi 0, v9] [] V2 D Q := by
    intro V2 v9 F2 h1 h2 hmany
    have hle : ∀ s : Int, gpF g p r s ≤ cntB g (pN p r) ∧ 0 ≤ gpF g p r s := by
      intro s
      have hm := mxF_is (g := g) (c := smF g p r s) (pN p r)
      have hsm : ∀ (i n : Nat), cntB (fun j => g j && samB p r s i j) n ≤ cntB g n := by
        intro i n
        induction n with
        | zero => exact Int.le_refl _
        | succ n ih =>
          unfold cntB
          cases g n
          · simp; exact ih
          · cases samB p r s i n
            · simp; omega
            · simp; exact ih
      refine ⟨?_, hm.1⟩
      rcases hm.2.2 with e | ⟨i, _, _, e⟩
      · show mxF _ _ _ ≤ _
        rw [e]; omega
      · show mxF _ _ _ ≤ _
        rw [← e]; exact hsm i _
    have hcb := cntB_b g (pN p r)
    have go : ∀ (c k : Nat) (V3 : xF) (v9 : xV), k + c = 4 → Fr [379, 380, 381] V1 V3 → V3 380 = V2 380 → V3 379 = V2 379 → RY d 271 103 [vr 256, vr 81, vi (r : Int), vr 76, vi (pN p r : Int), vi (cntB g (pN p r)), vi (lstB (cntB g (pN p r) + 1) (fun k => gpF g p r (k : Int)) k).1, vi (lstB (cntB g (pN p r) + 1) (fun k => gpF g p r (k : Int)) k).2, vi (k : Int), v9] [] V3 D Q := by
      intro c
      induction c with
      | zero =>
        intro k V3 v9 hk F3 _ _
        have hk : k = 4 := by omega
        subst hk
        refine u_271_103_81 ⟨fun _ => ?_, fun hlt => absurd hlt (by decide)⟩
        have := h V3 (C.tr (F3.cor (by decide)))
        have g0 := hle 0
        rw [if_neg (by omega), lstB_z (z' := cntB g (pN p r) + 1) (by show gpF g p r ((0 : Nat) : Int) < _; have := hle ((0 : Nat) : Int); omega) (by show gpF g p r ((0 : Nat) : Int) < _; have := hle ((0 : Nat) : Int); omega) 3] at this
        exact this
      | succ c ih =>
        intro k V3 v9 hk F3 e380 e379
        have e1 : wr ((k : Int) + 1) = ((k + 1 : Nat) : Int) := by rw [wr_id (by omega) (by omega)]; omega
        refine u_271_103_81 ⟨fun hle2 => by clear e1; omega, fun _ => ?_⟩
        refine c_greatest (g := g) (s := (k : Int)) (C.st hS |>.keep fun j hj => F3 _ (by simp; omega)) hW hr (fun i hi => by rw [e380]; exact h1 i hi) (fun i hi => by rw [e379]; exact h2 i hi) fun V4 F4 => ?_
        show RY d 271 117 _ _ V4 D Q
        have nxt := fun v => ih (k + 1) V4 v (by clear e1; omega) (F3.tr (F4.sub (by decide))) (by rw [F4.at_ 380 (by decide)]; exact e380) (by rw [F4.at_ 379 (by decide)]; exact e379)
        have el : lstB (cntB g (pN p r) + 1) (fun k => gpF g p r (k : Int)) (k + 1) = if gpF g p r (k : Int) < (lstB (cntB g (pN p r) + 1) (fun k => gpF g p r (k : Int)) k).2 then ((k : Int), gpF g p r (k : Int)) else lstB (cntB g (pN p r) + 1) (fun k => gpF g p r (k : Int)) k := rfl
        rw [el] at nxt
        rw [← e1] at nxt
        refine u_271_117_81 ⟨fun hge => ?_, fun hlt => ?_⟩
        · rw [if_neg (Int.not_lt.mpr hge)] at nxt
          exact nxt _
        · rw [if_pos hlt] at nxt
          exact nxt _
    exact go 4 0 V2 v9 (by omega) F2 rfl rfl
  have main : ∀ (k n : Nat) (V2 : xF), n + k = pN p r → Fr [379, 380, 381] V1 V2 → (∀ i, i < n → V2 380 i = if g i = true then 1 else 0) → (∀ i, i < n → V2 379 i = (ptP p r i : Int)) → RY d 271 19 [vr 256, vr 81, vi (r : Int), vr 76, vi (pN p r : Int), vi (cntB g n), vi (n : Int), vr 0, vr 0, vr 0] [] V2 D Q := by
    intro k
    induction k with
    | zero =>
      intro n V2 hn F2 h1 h2
      have hn : n = pN p r := by omega
      subst hn
      refine u_271_19_81 ⟨fun _ => ⟨fun hge => ?_, fun hlt => ?_⟩, fun hlt => absurd hlt (Int.lt_irrefl _)⟩
      · have hcb := cntB_b g (pN p r)
        rw [wr_id (by omega) (by omega)]
        exact tail V2 _ F2 h1 h2 hge
      · have := h V2 (C.tr (F2.cor (by decide)))
        rw [if_pos hlt] at this
        exact this
    | succ k ih =>
      intro n V2 hn F2 h1 h2
      have hn' : n < pN p r := by omega
      have hcb := cntB_b g n
      refine u_271_19_81 ⟨fun hle => by omega, fun _ => ?_⟩
      rw [nn_toNat, yR257 (by omega)]
      refine ⟨K257, by omega, by omega, ?_⟩
      rintro q rfl
      have hq : ∀ t, t < 48 → V2 (258 + n) t = hP p r n t := fun t ht => by rw [F2.at_ (258 + n) (by simp; omega)]; exact hA n hn' t ht
      refine c_rowsFit (f := hP p r n) (Or.inr (Or.inr (Or.inl ⟨by omega, by omega⟩))) hq (fun t ht => by rw [plA_hi hW hr hn' ht]; exact Int.le_refl _) hT hb ?_
      show RY d 271 43 _ _ V2 D Q
      have egn : fitB b (hP p r n) m = g n := by rw [hg]; rfl
      rw [egn]
      have nxt := ih (n + 1)
      have ecn : cntB g (n + 1) = cntB g n + (if g n = true then 1 else 0) := rfl
      have e1 : wr ((n : Int) + 1) = ((n + 1 : Nat) : Int) := by rw [wr_id (by omega) (by omega)]; omega
      have e2 : wr (cntB g n + 0) = cntB g n + 0 := wr_id (by clear e1; omega) (by clear e1; omega)
      have e3 : wr (cntB g n + 1) = cntB g n + 1 := wr_id (by clear e1 e2; omega) (by clear e1 e2; omega)
      refine u_271_43_81 ⟨by clear e1 e2 e3; omega, by split <;> simp, ?_⟩
      rintro V3 hV3
      rw [nn_toNat] at hV3
      have e380 : V3 380 n = if g n = true then 1 else 0 := by rw [hV3, up2_at]
      have F3 : Fr [379, 380, 381] V1 V3 := F2.tr (by rw [hV3]; exact Fr.up (by decide))
      have h1' : ∀ i, i < n + 1 → V3 380 i = if g i = true then 1 else 0 := fun i hi => by
        by_cases e : i = n
        · rw [e]; exact e380
        · rw [hV3, up2_ni e]; exact h1 i (by clear e1 e2 e3; omega)
      have h2' : ∀ i, i < n → V3 379 i = (ptP p r i : Int) := fun i hi => by rw [hV3, up2_na (by decide)]; exact h2 i hi
      have hA3 : ∀ i, i ≤ n → ∀ t, t < 48 → V3 (258 + i) t = hP p r i t := fun i hi t ht => by
        rw [F3.at_ (258 + i) (by simp; clear e1 e2 e3; omega)]
        exact hA i (by clear e1 e2 e3; omega) t ht
      rw [nn_toNat, e380, e2, e3]
      have part : ∀ z : Int, z = cntB g (n + 1) → RY d 330 0 [vr 256, vi (n : Int), vr 0] [] V3 D (yback d 271 76 [vr 256, vr 81, vi (r : Int), vr 76, vi (pN p r : Int), vi z, vi (n : Int), vr 0, vr 0, vr 0] [vi (n : Int), vr 379] Q) := by
        intro z hz
        refine c_partOf (p := p) (r := r) (by clear e1 e2 e3; omega) hA3 h2' ?_
        show RY d 271 76 _ _ V3 D Q
        refine u_271_76_81 ⟨by clear e1 e2 e3; omega, ?_⟩
        rintro V4 hV4
        rw [nn_toNat] at hV4
        rw [e1, hz]
        refine ih (n + 1) V4 (by clear e1 e2 e3; omega) (F3.tr (by rw [hV4]; exact Fr.up (by decide))) (fun i hi => by rw [hV4, up2_na (by decide)]; exact h1' i hi) (fun i hi => ?_)
        by_cases e : i = n
        · rw [e, hV4, up2_at]
        · rw [hV4, up2_ni e]; exact h2' i (by clear e1 e2 e3; omega)
      refine ⟨by clear e1 e2 e3; omega, fun hz => ?_, fun hz => ?_⟩
      · refine part _ ?_
        rw [ecn]
        by_cases e : g n = true
        · rw [if_pos e] at hz; exact absurd hz (by decide)
        · rw [if_neg e]
      · refine part _ ?_
        rw [ecn]
        by_cases e : g n = true
        · rw [if_pos e]
        · rw [if_neg e] at hz; exact absurd rfl hz
  exact main (pN p r) 0 V1 (by omega) Fr.rf (fun i hi => absurd hi (Nat.not_lt_zero i)) (fun i hi => absurd hi (Nat.not_lt_zero i))
theorem ca_ask {r n : Int} (hT : Tp V b n) (hS : St V 81 p) (hB : V 2 = xback5) (hW : WF p)
    (h : ∀ V' D', Cor (up2 V 76 1 0) V' → CorD D D' → Q (cRes (aTp p r n b (fun r => askP p r b (n / 2).toNat))) V' D') : RY d 183 0 [vr 70, vi r, vr 0] [] V D Q := by
  obtain ⟨t1, t2, t3, t4, t5, t6⟩ := hT
  have S1 := cor_tape hS
  have hCD : ∀ (L : xF), CorD D (L, D.2) := fun L => ⟨fun _ _ => rfl, rfl, rfl, by dsimp only; omega, by dsimp only; omega⟩
  have hCE : ∀ (L : xF), CorD D (excD (L, D.2)) := fun L => ⟨fun _ _ => rfl, rfl, rfl, Nat.le_refl _, Nat.le_refl _⟩
  refine u_183_0 (c_takeRows t1 t3 t4 t6 (fun hok L hL => ?_) (fun hno L => ?_))
  · refine u_183_7 (c_needRoom S1 (fun hr => ?_) (fun hr => ⟨rfl, ?_⟩))
    · refine u_183_13 (u_268_0 ⟨fun _ => ?_, fun h5 => absurd h5 (by decide)⟩)
      obtain ⟨r, rfl⟩ : ∃ k : Nat, r = (k : Int) := ⟨r.toNat, by omega⟩
      refine u_183_18 (c_bestStep S1 (by rw [up2_na (by decide)]; exact hB) hW hr.2 hL (fun j hj => (hok.2.2 j (by omega)).1) ?_)
      intro V' C
      have := h V' (L, D.2) C (hCD L)
      unfold aTp at this
      rw [if_pos hr, if_pos hok, nn_toNat] at this
      exact u_183_34 this
    · have := h _ _ Cor.rf (hCE L)
      unfold aTp at this
      rw [if_neg hr] at this
      exact this
  · refine u_183_7 (c_needRoom S1 (fun hr => ?_) (fun hr => ⟨rfl, ?_⟩))
    · refine u_183_13 (u_268_0 ⟨fun h5 => absurd rfl h5, fun _ => ⟨rfl, ?_⟩⟩)
      have := h _ _ Cor.rf (hCE L)
      unfold aTp at this
      rw [if_pos hr, if_neg hno] at this
      exact this
    · have := h _ _ Cor.rf (hCE L)
      unfold aTp at this
      rw [if_neg hr] at this
      exact this
end ASK
