/-! ===== LETS: THE MODEL ===== -/
def letM (V V' : xF) : Prop := Fr [405, 411, 412, 413, 418, 419] V V' ∧ (∀ k, ((k ≤ 8 ∧ k ≠ 0) ∨ k = 12 ∨ k = 0 ∨ 19 ≤ k) → V' 405 k = V 405 k) ∧ Bv V'
theorem letM.tr {V V' V2 : xF} (h : letM V V') (h' : letM V' V2) : letM V V2 := ⟨h.1.tr h'.1, fun k hk => (h'.2.1 k hk).trans (h.2.1 k hk), h'.2.2⟩
theorem askF.lm {V V' : xF} (h : askF V V') : letM V V' := ⟨h.1.sub (by decide), h.2.1, h.2.2⟩
theorem letM.up {V : xF} {a i : Nat} {z : Int} (ha : a = 418 ∨ a = 419) (hB : Bv V) : letM V (up2 V a i z) := by
  have h5 : up2 V a i z 405 = V 405 := up2_na (by omega)
  refine ⟨Fr.up (by rcases ha with rfl | rfl <;> decide), fun k _ => by rw [h5], by unfold Bv; rw [h5]; exact hB⟩
theorem letM.cor {V V' : xF} (h : letM V V') : Cor V V' := by
  obtain ⟨h1, h2, h3⟩ := h
  refine ⟨fun a ha => h1 a ?_, h2 3 (by omega), h2 6 (by omega), h2 8 (by omega), h2 12 (by omega), by rw [h1 76 (by decide)], fun _ => h3⟩
  intro hm
  have : a = 405 ∨ a = 411 ∨ a = 412 ∨ a = 413 ∨ a = 418 ∨ a = 419 := by simpa using hm
  rcases this with rfl | rfl | rfl | rfl | rfl | rfl <;> exact absurd ha (by decide)
theorem letM.z {V V' : xF} (h : letM V V') : V' 405 0 = V 405 0 := h.2.1 0 (by omega)
def alF (p : Rw) (ls : List Ln) (t : Nat) : Int := bitsT (fun r => !rFR p ls t r) (p 3).toNat
def MS (V : xF) (p : Rw) (ls : List Ln) (t0 : Nat) : Prop := (∀ t u : Nat, t0 ≤ t → t ≤ (p 4).toNat → u < 32 → V 418 (32 * t + u) = dpT p ls t u) ∧ ∀ t : Nat, t0 ≤ t → t < (p 4).toNat → V 419 t = alF p ls t
section MLETS
variable {d : Nat} {V : xF} {D : yD} {Q : xRes → xF → yD → Prop} {p : Rw} {ls : List Ln}
theorem al_b (hW : WF p) {t : Nat} : 0 ≤ alF p ls t ∧ alF p ls t < 32 := bitsT_lt (by have := hW.1; omega)
theorem tb_al (hW : WF p) {t r : Nat} (hr : (r : Int) < p 3) : tb (alF p ls t) r = !rFR p ls t r := by
  have := hW.1
  unfold alF
  rw [tb_bitsT (by omega) (by omega), decide_eq_true (by omega), Bool.true_and]
theorem ix {t u : Nat} (ht : t ≤ 5) (hu : u < 32) : wr ((wr ((32 : Int) * (t : Int))) + (u : Int)) = ((32 * t + u : Nat) : Int) ∧ (0 : Int) ≤ ((32 * t + u : Nat) : Int) ∧ ((32 * t + u : Nat) : Int) < 192 := by
  rw [wr_id (x := 32 * (t : Int)) (by omega) (by omega), wr_id (by omega) (by omega)]
  omega
theorem m_letsOf (hM : MC V p ls) (hB : Bv V) (hd : 30 ≤ d) (h : ∀ V', letM V V' → MC V' p ls → MS V' p ls 0 → Q (.inl none) V' D) : RY d 203 0 [vr 405, vr 0, vr 0, vr 0, vr 0, vr 0] [] V D Q := by
  have hW := hM.2.1
  have h3 := hW.1
  have h4 := hW.2.1
  obtain ⟨n, hn⟩ : ∃ n, n = (p 4).toNat := ⟨_, rfl⟩
  have hn4 : p 4 = (n : Int) := by omega
  have hn5 : n ≤ 5 := by omega
  have keep : ∀ {V1 : xF}, letM V V1 → MC V1 p ls := fun hF => hM.c hF.cor
  have rows : ∀ (t : Nat) (V1 : xF) (v2 v3 v4 v5 : xV), t ≤ n → letM V V1 → MS V1 p ls t → RY d 203 40 [vr 405, vi ((t : Int) - 1), v2, v3, v4, v5] [] V1 D Q := by
    intro t
    induction t with
    | zero => intro V1 v2 v3 v4 v5 _ hF hS; exact u_203_40 ⟨fun _ => h V1 hF (keep hF) hS, fun hle => absurd hle (by decide)⟩
    | succ t iht =>
      intro V1 v2 v3 v4 v5 htn hF hS
      have ht4 : (t : Int) < p 4 := by omega
      have ht5 : t < 5 := by omega
      rw [show ((t + 1 : Nat) : Int) - 1 = (t : Int) by omega]
      -- the cells
      have cells : ∀ (m u : Nat) (V3 : xF) (v4 v5 : xV), m + u = 32 → letM V V3 → MS V3 p ls (t + 1) → V3 419 t = alF p ls t → (∀ j, j < u → V3 418 (32 * t + j) = dpT p ls t j) → RY d 203 92 [vr 405, vi (t : Int), vi (alF p ls t), vi (u : Int), v4, v5] [] V3 D Q := by
        intro m
        induction m with
        | zero =>
          intro u V3 v4 v5 hu hF3 hS3 hA hC
          have hu : u = 32 := by omega
          subst hu
          have e1 : wr ((t : Int) + (-1)) = (t : Int) - 1 := by rw [wr_id (by omega) (by omega)]; omega
          refine u_203_92 ⟨fun _ => ?_, fun hlt => absurd hlt (by decide)⟩
          rw [e1]
          clear e1
          refine iht V3 _ _ _ _ (by omega) hF3 ⟨fun t' u h1 h2 h3 => ?_, fun t' h1 h2 => ?_⟩
          · by_cases e : t' = t
            · rw [e]; exact hC u h3
            · exact hS3.1 t' u (by omega) h2 h3
          · by_cases e : t' = t
            · rw [e]; exact hA
            · exact hS3.2 t' (by omega) h2
        | succ m ihm =>
          intro u V3 v4 v5 hu hF3 hS3 hA hC
          have hu32 : u < 32 := by omega
          have e1 : wr ((t : Int) + 1) = ((t + 1 : Nat) : Int) := by rw [wr_id (by omega) (by omega)]; omega
          have x1 := ix (t := t + 1) (u := u) (by clear e1; omega) hu32
          have x0 := ix (t := t) (u := u) (by clear e1; omega) hu32
          refine u_203_92 ⟨fun hle => by clear e1 x1 x0; omega, fun _ => ?_⟩
          rw [e1, x1.1, nn_toNat]
          refine ⟨x1.2, ?_⟩
          rw [hS3.1 (t + 1) u (Nat.le_refl _) (by clear e1 x1 x0; omega) hu32]
          have M3 := keep hF3
          have rooms : ∀ (m' r : Nat), (m' : Int) + r = p 3 → RY d 203 116 [vr 405, vi (t : Int), vi (alF p ls t), vi (u : Int), vi (mxR (dpT p ls (t + 1)) (rR p) (okU p ls t u) u r), vi (r : Int)] [] V3 D Q := by
            intro m'
            induction m' with
            | zero =>
              intro r hr
              have eu : wr ((u : Int) + 1) = ((u + 1 : Nat) : Int) := by clear e1 x1 x0; rw [wr_id (by omega) (by omega)]; omega
              refine u_203_116 ⟨fun _ => ?_, fun hlt => ?_⟩
              · rw [x0.1, nn_toNat, eu]
                refine ⟨x0.2, ?_⟩
                rintro V4 hV4
                have ed : mxR (dpT p ls (t + 1)) (rR p) (okU p ls t u) u r = dpT p ls t u := by rw [dpT_s (by clear e1 x1 x0 eu; omega), show r = (p 3).toNat by clear e1 x1 x0 eu; omega]
                rw [ed] at hV4
                clear e1 x1 x0 eu
                have hF4 : letM V V4 := by rw [hV4]; exact hF3.tr (letM.up (Or.inl rfl) hF3.2.2)
                refine ihm (u + 1) V4 _ _ (by omega) hF4 ⟨fun t' u' h1 h2 h3 => ?_, fun t' h1 h2 => ?_⟩ ?_ fun j hj => ?_
                · rw [hV4, up2_ni (by omega)]; exact hS3.1 t' u' h1 h2 h3
                · rw [hV4, up2_na (by decide)]; exact hS3.2 t' h1 h2
                · rw [hV4, up2_na (by decide)]; exact hA
                · rw [hV4, up2_a]
                  by_cases e : j = u
                  · rw [if_pos (by omega), e]
                  · rw [if_neg (by omega)]; exact hC j (by omega)
              · rw [M3.1] at hlt; clear e1 x1 x0 eu; omega
            | succ m' ihr =>
              intro r hr
              have hr3 : (r : Int) < p 3 := by clear e1 x1 x0; omega
              have hr5 : r < 5 := by clear e1 x1 x0; omega
              have er : wr ((r : Int) + 1) = ((r + 1 : Nat) : Int) := by clear e1 x1 x0; rw [wr_id (by omega) (by omega)]; omega
              have hdf := tb_dif (al_b (ls := ls) (t := t) hW) (y := (u : Int)) (by clear e1 x1 x0 er; omega)
              have hy8 : yr_198 (xand (alF p ls t) (xxor (u : Int) (-1))) (r : Int) V3 D = if okU p ls t u r = true then 1 else 0 := by
                rw [yr198 hdf.1 hr5, hdf.2 r hr5, tb_al hW hr3]
                rfl
              obtain ⟨o1, o2⟩ := orN_i hu32 hr5
              have xr := ix (t := t + 1) (u := orN u r) (by clear e1 x1 x0 er; omega) o2
              have b1 := dpT_b (ls := ls) (t := t + 1) (u := orN u r) hW
              have b2 := hW.rent hr3
              refine u_203_116 ⟨fun hle => ?_, fun _ => ?_⟩
              · rw [M3.1] at hle; clear e1 x1 x0 er xr; omega
              rw [hy8]
              refine ⟨fun hz => ?_, fun hz => ?_⟩
              · have hno : okU p ls t u r = false := by
                  cases hx : okU p ls t u r
                  · rfl
                  · rw [hx] at hz; exact absurd hz (by decide)
                have := ihr (r + 1) (by clear e1 x1 x0 er xr; omega)
                rw [show mxR (dpT p ls (t + 1)) (rR p) (okU p ls t u) u (r + 1) = if okU p ls t u r = true ∧ mxR (dpT p ls (t + 1)) (rR p) (okU p ls t u) u r < rR p r + dpT p ls (t + 1) (orN u r) then rR p r + dpT p ls (t + 1) (orN u r) else mxR (dpT p ls (t + 1)) (rR p) (okU p ls t u) u r from rfl, if_neg (fun g => by rw [hno] at g; exact absurd g.1 (by decide))] at this
                rw [er]
                exact this
              · have hyes : okU p ls t u r = true := Classical.byContradiction fun g => hz (if_neg g)
                rw [e1, o1, xr.1, nn_toNat, yr133_6 hr5, M3.1, hS3.1 (t + 1) (orN u r) (Nat.le_refl _) (by clear e1 x1 x0 er xr; omega) o2, er]
                refine ⟨yg133 hr5 (by clear e1 x1 x0 er xr; omega), xr.2, ?_⟩
                have ev : yr_185 (mxR (dpT p ls (t + 1)) (rR p) (okU p ls t u) u r) (wr (rR p r + dpT p ls (t + 1) (orN u r))) V3 D = mxR (dpT p ls (t + 1)) (rR p) (okU p ls t u) u (r + 1) := by
                  clear e1 x1 x0 er xr
                  rw [wr_id (by omega) (by omega)]
                  unfold yr_185
                  show _ = if okU p ls t u r = true ∧ mxR (dpT p ls (t + 1)) (rR p) (okU p ls t u) u r < rR p r + dpT p ls (t + 1) (orN u r) then rR p r + dpT p ls (t + 1) (orN u r) else mxR (dpT p ls (t + 1)) (rR p) (okU p ls t u) u r
                  have gen : ∀ A B : Int, (if B < A then A else B) = if okU p ls t u r = true ∧ A < B then B else A := by
                    intro A B
                    by_cases hlt : A < B
                    · rw [if_neg (show ¬ B < A by omega), if_pos (show okU p ls t u r = true ∧ A < B from ⟨hyes, hlt⟩)]
                    · rw [if_neg (show ¬ (okU p ls t u r = true ∧ A < B) from fun g => hlt g.2)]
                      split <;> omega
                  exact gen _ _
                rw [ev]
                exact ihr (r + 1) (by clear e1 x1 x0 er xr ev; omega)
          exact rooms (p 3).toNat 0 (by clear e1 x1 x0; omega)
      -- who is refused
      have bits : ∀ (m k : Nat) (V2 : xF) (v4 v5 : xV), (m : Int) + k = p 3 → letM V V2 → MS V2 p ls (t + 1) → RY d 203 48 [vr 405, vi (t : Int), vi (bitsT (fun r => !rFR p ls t r) k), vi (k : Int), v4, v5] [] V2 D Q := by
        intro m
        induction m with
        | zero =>
          intro k V2 v4 v5 hk hF2 hS2
          refine u_203_48 ⟨fun _ => ⟨by omega, ?_⟩, fun hlt => ?_⟩
          · rintro V3 hV3
            rw [nn_toNat, show bitsT (fun r => !rFR p ls t r) k = alF p ls t by unfold alF; rw [show k = (p 3).toNat by omega]] at hV3
            rw [show bitsT (fun r => !rFR p ls t r) k = alF p ls t by unfold alF; rw [show k = (p 3).toNat by omega]]
            have hF3 : letM V V3 := by rw [hV3]; exact hF2.tr (letM.up (Or.inr rfl) hF2.2.2)
            refine cells 32 0 V3 _ _ rfl hF3 ⟨fun t' u' h1 h2 h3 => ?_, fun t' h1 h2 => ?_⟩ (by rw [hV3, up2_at]) (fun j hj => absurd hj (Nat.not_lt_zero _))
            · rw [hV3, up2_na (by decide)]; exact hS2.1 t' u' h1 h2 h3
            · rw [hV3, up2_ni (by omega)]; exact hS2.2 t' h1 h2
          · rw [(keep hF2).1] at hlt; omega
        | succ m ihm =>
          intro k V2 v4 v5 hk hF2 hS2
          have hr : (k : Int) < p 3 := by omega
          have hk5 : k < 5 := by omega
          have e1 : wr ((k : Int) + 1) = ((k + 1 : Nat) : Int) := by rw [wr_id (by omega) (by omega)]; omega
          refine u_203_48 ⟨fun hle => ?_, fun _ => m_rf (keep hF2) hd ht4 hr fun V3 hF3 hM3 => ?_⟩
          · rw [(keep hF2).1] at hle; clear e1; omega
          · show RY d 203 65 _ _ V3 D Q
            have := fun v4 v5 => ihm (k + 1) V3 v4 v5 (by clear e1; omega) (hF2.tr hF3.lm) ⟨fun t' u' h1 h2 h3 => by rw [hF3.1.at_ 418 (by decide)]; exact hS2.1 t' u' h1 h2 h3, fun t' h1 h2 => by rw [hF3.1.at_ 419 (by decide)]; exact hS2.2 t' h1 h2⟩
            rw [show bitsT (fun r => !rFR p ls t r) (k + 1) = if (!rFR p ls t k) = true then xor_ (bitsT (fun r => !rFR p ls t r) k) (xshl 1 (k : Int)) else bitsT (fun r => !rFR p ls t r) k from rfl] at this
            refine u_203_65 ⟨fun hf => ?_, fun hf => ?_⟩
            · have hf : rFR p ls t k = false := by
                cases hx : rFR p ls t k
                · rfl
                · rw [hx] at hf; exact absurd hf (by decide)
              rw [if_pos (by rw [hf]; rfl)] at this
              rw [e1]; exact this _ _
            · have hf : rFR p ls t k = true := Classical.byContradiction fun g => hf (if_neg g)
              rw [if_neg (by rw [hf]; decide)] at this
              rw [e1, or_0 (by clear e1; omega)]; exact this _ _
      exact u_203_40 ⟨fun hneg => by omega, fun _ => bits (p 3).toNat 0 V1 _ _ (by omega) hF hS⟩
  refine u_203_0 ?_
  have fill : ∀ (m k : Nat) (V1 : xF), m + k = 32 → letM V V1 → (∀ j, j < k → V1 418 (32 * n + j) = 0) → RY d 203 2 [vr 405, vi (k : Int), vr 0, vr 0, vr 0, vr 0] [] V1 D Q := by
    intro m
    induction m with
    | zero =>
      intro k V1 hk hF hz
      have hk : k = 32 := by omega
      subst hk
      refine u_203_2 ⟨fun _ => ?_, fun hlt => absurd hlt (by decide)⟩
      rw [(keep hF).1, hn4, wr_id (by omega) (by omega)]
      refine rows n V1 _ _ _ _ (Nat.le_refl _) hF ⟨fun t' u h1 h2 h3 => ?_, fun t' h1 h2 => by omega⟩
      have : t' = n := by omega
      subst this
      rw [hz u h3]
      show (0 : Int) = dpF p ls ((p 4).toNat - t') u
      rw [show (p 4).toNat - t' = 0 by omega]
      rfl
    | succ m ih =>
      intro k V1 hk hF hz
      have e1 : wr ((k : Int) + 1) = ((k + 1 : Nat) : Int) := by rw [wr_id (by omega) (by omega)]; omega
      have x0 := ix (t := n) (u := k) hn5 (by clear e1; omega)
      refine u_203_2 ⟨fun hle => by clear e1 x0; omega, fun _ => ?_⟩
      rw [(keep hF).1, hn4, x0.1, nn_toNat]
      refine ⟨x0.2, ?_⟩
      rintro V2 hV2
      rw [e1]
      clear e1 x0
      refine ih (k + 1) V2 (by omega) (by rw [hV2]; exact hF.tr (letM.up (Or.inl rfl) hF.2.2)) fun j hj => ?_
      rw [hV2, up2_a]
      by_cases e : j = k
      · rw [if_pos (by omega)]
      · rw [if_neg (by omega)]; exact hz j (by omega)
  exact fill 32 0 V rfl ⟨Fr.rf, fun _ _ => rfl, hB⟩ (fun j hj => absurd hj (Nat.not_lt_zero _))
theorem m_way1 (hM : MC V p ls) (hS : MS V p ls 0) {t : Nat} (ht : (t : Int) < p 4) (h : Q (.inl (some (vi (wayF_ p ls (t + 1)).2))) V D) {v5 : xV} : RY d 70 54 [vr 405, vi (t : Int), vi 0, vi (-1), vi 0, v5] [] V D Q := by
  obtain ⟨hE, hW, hT, hw⟩ := id hM
  have h3 := hW.1
  have h4 := hW.2.1
  have go : ∀ (m k : Nat) (v5 : xV), m + k = t + 1 → RY d 70 54 [vr 405, vi (t : Int), vi (((wayF_ p ls k).1 : Nat) : Int), vi (wayF_ p ls k).2, vi (k : Int), v5] [] V D Q := by
    intro m
    induction m with
    | zero =>
      intro k v5 hk
      have hk : k = t + 1 := by omega
      subst hk
      exact u_70_54 ⟨fun _ => h, fun hle => by omega⟩
    | succ m ih =>
      intro k v5 hk
      have hk5 : k < 5 := by omega
      have hkn : k < (p 4).toNat := by omega
      have hu32 := way_lt (ls := ls) hW k
      obtain ⟨u, hu⟩ : ∃ u, u = (wayF_ p ls k).1 := ⟨_, rfl⟩
      have hnx : wayF_ p ls (k + 1) = (if fndF p ls k u = -1 then u else orN u (fndF p ls k u).toNat, fndF p ls k u) := by rw [hu]; rfl
      rw [← hu] at hu32 ⊢
      have e1 : wr ((k : Int) + 1) = ((k + 1 : Nat) : Int) := by rw [wr_id (by omega) (by omega)]; omega
      have x1 := ix (t := k + 1) (u := u) (by clear e1; omega) hu32
      have x0 := ix (t := k) (u := u) (by clear e1; omega) hu32
      refine u_70_54 ⟨fun hlt => by clear e1 x1 x0; omega, fun _ => ?_⟩
      rw [e1, x1.1, x0.1, nn_toNat, nn_toNat, hS.1 (k + 1) u (Nat.zero_le _) (by clear e1 x1 x0; omega) hu32, hS.1 k u (Nat.zero_le _) (by clear e1 x1 x0; omega) hu32]
      refine ⟨x1.2, x0.2, fun hne => ?_, fun he => ?_⟩
      · -- a room is found
        have hfb : fndF p ls k u = fstB (wyB p ls k u) (p 3).toNat := by unfold fndF; rw [if_neg hne]
        rw [hE, show wr (p 3 - 1) = p 3 - 1 from wr_id (by clear e1 x1 x0; omega) (by clear e1 x1 x0; omega)]
        have look : ∀ (r : Nat) (f : Int), (r : Int) ≤ p 3 → ((f = -1 ∧ ∀ i : Nat, r ≤ i → (i : Int) < p 3 → wyB p ls k u i = false) ∨ ∃ g : Nat, f = (g : Int) ∧ r ≤ g ∧ (g : Int) < p 3 ∧ wyB p ls k u g = true ∧ ∀ i, r ≤ i → i < g → wyB p ls k u i = false) → RY d 70 104 [vr 405, vi (t : Int), vi (u : Int), vi f, vi (k : Int), vi ((r : Int) - 1)] [] V D Q := by
          intro r
          induction r with
          | zero =>
            intro f _ hf
            refine u_70_104 ⟨fun _ => ?_, fun hle => absurd hle (by decide)⟩
            rcases hf with ⟨hf, hno⟩ | ⟨g, hf, _, hg3, hg, hlo⟩
            · exfalso
              have hs := dpT_s (ls := ls) (t := k) (u := u) hkn
              rcases mxR_ex (D := dpT p ls (k + 1)) (R := rR p) (ok := okU p ls k u) (u := u) (p 3).toNat with g | ⟨r, g1, g2, g3⟩
              · exact hne (by rw [hs, g])
              · have := hno r (Nat.zero_le _) (by clear e1 x1 x0; omega)
                unfold wyB at this
                rw [g2, decide_eq_true (by rw [hs, g3])] at this
                cases this
            · have hfe : fndF p ls k u = (g : Int) := by
                rw [hfb]
                rcases fstB_spec (wyB p ls k u) (p 3).toNat with ⟨_, e⟩ | ⟨q, e, q1, q2, q3⟩
                · rw [e g (by clear e1 x1 x0; omega)] at hg; cases hg
                · rw [e]
                  have : ¬ q < g := fun x => by rw [hlo q (Nat.zero_le _) x] at q2; cases q2
                  have : ¬ g < q := fun x => by rw [q3 g x] at hg; cases hg
                  clear e1 x1 x0; omega
              have nxt := fun v => ih (k + 1) v (by clear e1 x1 x0; omega)
              rw [hnx, hfe, if_neg (by clear e1 x1 x0; omega), nn_toNat] at nxt
              rw [hf, (orN_i hu32 (by clear e1 x1 x0; omega)).1, e1]
              exact nxt _
          | succ r ihr =>
            intro f hr hf
            have hr3 : (r : Int) < p 3 := by clear e1 x1 x0; omega
            have hr5 : r < 5 := by clear e1 x1 x0; omega
            rw [show ((r + 1 : Nat) : Int) - 1 = (r : Int) by clear e1 x1 x0; omega]
            have er : wr ((r : Int) + (-1)) = (r : Int) - 1 := by clear e1 x1 x0; rw [wr_id (by omega) (by omega)]; omega
            have hdf := tb_dif (al_b (ls := ls) (t := k) hW) (y := (u : Int)) (by clear e1 x1 x0 er; omega)
            have hy8 : yr_198 (xand (alF p ls k) (xxor (u : Int) (-1))) (r : Int) V D = if okU p ls k u r = true then 1 else 0 := by
              rw [yr198 hdf.1 hr5, hdf.2 r hr5, tb_al hW hr3]
              rfl
            obtain ⟨o1, o2⟩ := orN_i hu32 hr5
            have xr := ix (t := k + 1) (u := orN u r) (by clear e1 x1 x0 er; omega) o2
            have b1 := dpT_b (ls := ls) (t := k + 1) (u := orN u r) hW
            have b2 := hW.rent hr3
            have no : wyB p ls k u r = false → RY d 70 104 [vr 405, vi (t : Int), vi (u : Int), vi f, vi (k : Int), vi ((r : Int) - 1)] [] V D Q := by
              intro hw
              refine ihr f (by clear e1 x1 x0 er xr; omega) ?_
              rcases hf with ⟨hf, hno⟩ | ⟨g, hf, h1, hg3, hg, hlo⟩
              · refine Or.inl ⟨hf, fun i hi hi3 => ?_⟩
                by_cases e : i = r
                · rw [e]; exact hw
                · exact hno i (by clear e1 x1 x0 er xr; omega) hi3
              · refine Or.inr ⟨g, hf, by clear e1 x1 x0 er xr; omega, hg3, hg, fun i hi hig => ?_⟩
                by_cases e : i = r
                · rw [e]; exact hw
                · exact hlo i (by clear e1 x1 x0 er xr; omega) hig
            refine u_70_104 ⟨fun hneg => by clear e1 x1 x0 er xr; omega, fun _ => ⟨by clear e1 x1 x0 er xr; omega, ?_⟩⟩
            rw [nn_toNat, hS.2 k (Nat.zero_le _) hkn, hy8]
            refine ⟨fun hz => ?_, fun hz => ?_⟩
            · have hno : okU p ls k u r = false := by
                cases hx : okU p ls k u r
                · rfl
                · rw [hx] at hz; exact absurd hz (by decide)
              rw [er]
              exact no (by unfold wyB; rw [hno, Bool.false_and])
            · have hyes : okU p ls k u r = true := Classical.byContradiction fun g => hz (if_neg g)
              rw [e1, o1, xr.1, x0.1, nn_toNat, nn_toNat, yr133_6 hr5, hE, hS.1 (k + 1) (orN u r) (Nat.zero_le _) (by clear e1 x1 x0 er xr; omega) o2, hS.1 k u (Nat.zero_le _) (by clear e1 x1 x0 er xr; omega) hu32, er, show wr (rR p r + dpT p ls (k + 1) (orN u r)) = rR p r + dpT p ls (k + 1) (orN u r) from wr_id (by clear e1 x1 x0 er xr; omega) (by clear e1 x1 x0 er xr; omega)]
              refine ⟨yg133 hr5 (by clear e1 x1 x0 er xr; omega), xr.2, x0.2, fun hne2 => ?_, fun he => ?_⟩
              · exact no (by unfold wyB; rw [decide_eq_false hne2, Bool.and_false])
              · have hyw : wyB p ls k u r = true := by unfold wyB; rw [hyes, decide_eq_true he]; rfl
                exact ihr (r : Int) (by clear e1 x1 x0 er xr; omega) (Or.inr ⟨r, rfl, Nat.le_refl _, hr3, hyw, fun i h1 h2 => by clear e1 x1 x0 er xr; omega⟩)
        have := look (p 3).toNat (-1) (by clear e1 x1 x0; omega) (Or.inl ⟨rfl, fun i h1 h2 => by clear e1 x1 x0; omega⟩)
        rw [show (((p 3).toNat : Nat) : Int) - 1 = p 3 - 1 by clear e1 x1 x0; omega] at this
        exact this
      · have hfe : fndF p ls k u = -1 := by unfold fndF; rw [if_pos he]
        have nxt := fun v => ih (k + 1) v (by clear e1 x1 x0; omega)
        rw [hnx, hfe, if_pos rfl] at nxt
        exact nxt _
  exact go (t + 1) 0 v5 rfl
theorem ma_lets {t : Int} (hM : MC V p ls) (hB : Bv V) (hd : 30 ≤ d) (h : ∀ V', V' 405 0 = mCd 2 (aLets p ls t) → Cor V V' → Q (.inl (some (vi (mVal (aLets p ls t))))) V' D) : RY d 70 0 [vr 405, vi t, vr 0, vr 0, vr 0, vr 0] [] V D Q := by
  obtain ⟨hE, hW, hT, hw⟩ := id hM
  unfold aLets at h
  have main : (t = -1 ∨ (0 ≤ t ∧ t < p 4)) → ∀ V1 : xF, V1 = up2 V 405 0 0 → (((V1 405 0) ≤ 0 → RY d 203 0 [vr 405, vr 0, vr 0, vr 0, vr 0, vr 0] [] V1 D (yback d 70 35 [vr 405, vi t, vr 0, vr 0, vr 0, vr 0] [] Q)) ∧ ((0 : Int) < (V1 405 0) → Q (.inl (some (vi 0))) V1 D)) := by
    intro hy V1 hV1
    rw [aIf_y hy] at h
    have t0 : V1 405 0 = 0 := by rw [hV1]; exact v405.1
    have C1 : Cor V V1 := by rw [hV1]; exact v405.2.2
    clear hV1
    refine ⟨fun _ => m_letsOf (hM.c C1) (C1.2.2.2.2.2.2 hB) hd fun V2 hF2 hM2 hS2 => ?_, fun g => by omega⟩
    show RY d 70 35 _ _ V2 D Q
    have hq := h V2 (by rw [hF2.z, t0]; rfl) (C1.tr hF2.cor)
    have hq : Q (.inl (some (vi (letsF p ls t)))) V2 D := hq
    unfold letsF at hq
    refine u_70_35 ⟨fun hn => ?_, fun hn => ?_⟩
    · have ht : 0 ≤ t ∧ t < p 4 := by rcases hy with g | g; exact absurd g hn; exact g
      rw [if_neg hn] at hq
      obtain ⟨t, rfl⟩ : ∃ m : Nat, t = (m : Int) := ⟨t.toNat, by omega⟩
      rw [nn_toNat] at hq
      exact m_way1 hM2 hS2 ht.2 hq
    · rw [if_pos hn] at hq
      rw [show V2 418 0 = dpT p ls 0 0 from hS2.1 0 0 (Nat.le_refl _) (Nat.zero_le _) (by decide)]
      exact hq
  refine u_70_0 ⟨fun hn => main (Or.inl hn), fun hn => ⟨yg142, ?_⟩⟩
  rw [yr142 (by rw [hE]; exact hW), hE]
  by_cases ht : 0 ≤ t ∧ t < p 4
  · rw [if_pos ht]
    exact ⟨fun _ => main (Or.inr ht), fun g => absurd g (by decide)⟩
  · rw [if_neg ht]
    refine ⟨fun g => absurd rfl g, fun _ => ?_⟩
    rw [aIf_n (by rintro (g | g); exact hn g; exact ht g)] at h
    rintro V1 hV1
    have t0 : V1 405 0 = 1 := by rw [hV1]; exact v405.1
    exact ⟨fun g => by omega, fun _ => h V1 t0 (by rw [hV1]; exact v405.2.2)⟩
end MLETS
