/-! ===== LETS: THE CLASS'S ANSWER ===== -/
section LETS2
variable {d : Nat} {V : xF} {D : yD} {Q : xRes → xF → yD → Prop} {p : Rw} {ls : List Ln}
theorem c_way1 (hL : LC 81 V D p ls) (hM : MR V p ls 0) {t : Nat} (ht : (t : Int) < p 4) (h : ∀ V', Fr [394] V V' → Q (.inl (some (vi (wayF_ p ls (t + 1)).2))) V' D) : RY d 338 0 [vr 390, vr 81, vi (t : Int), vr 0, vr 0, vr 0, vr 0, vr 0] [] V D Q := by
  have hW := hL.2.1
  have h3 := hW.1
  have h4 := hW.2.1
  refine u_338_0_81 ?_
  have go : ∀ (m k : Nat) (V1 : xF) (v6 v7 : xV), m + k = t + 1 → Fr [394] V V1 → RY d 338 8 [vr 390, vr 81, vi (t : Int), vi (((wayF_ p ls k).1 : Nat) : Int), vi (wayF_ p ls k).2, vi (k : Int), v6, v7] [] V1 D Q := by
    intro m
    induction m with
    | zero =>
      intro k V1 v6 v7 hk hF
      have hk : k = t + 1 := by omega
      subst hk
      exact u_338_8_81 ⟨fun _ => h V1 hF, fun hle => by omega⟩
    | succ m ih =>
      intro k V1 v6 v7 hk hF
      have hL1 := hL.fr hF (by decide) (by decide)
      have hk4 : (k : Int) < p 4 := by omega
      have hk5 : k < 5 := by omega
      have hu32 := way_lt (ls := ls) hW k
      obtain ⟨u, hu⟩ : ∃ u, u = (wayF_ p ls k).1 := ⟨_, rfl⟩
      have hnx : wayF_ p ls (k + 1) = (if fndF p ls k u = -1 then u else orN u (fndF p ls k u).toNat, fndF p ls k u) := by rw [hu]; rfl
      rw [← hu] at hu32 ⊢
      refine u_338_8_81 ⟨fun hlt => by omega, fun _ => c_refd hL1 hk4 fun V2 hF2 => ?_⟩
      show RY d 338 21 _ _ V2 D Q
      refine u_338_21_81 ?_
      have F2 := hF.tr hF2
      have hL2 := hL.fr F2 (by decide) (by decide)
      have hM2 : MR V2 p ls 0 := fun t' u' h1 h2 h3 => by rw [F2 (396 + t') (by simp; omega)]; exact hM t' u' h1 h2 h3
      have e1 : wr ((k : Int) + 1) = ((k + 1 : Nat) : Int) := by rw [wr_id (by omega) (by omega)]; omega
      have hux : xor_ (u : Int) 0 = (u : Int) := xor0 (by clear e1; omega)
      -- how a tenant ends
      have out : ∀ (f : Int) (v6 v7 : xV), f = fndF p ls k u → (f ≠ ((-1)) → RY d 338 8 [vr 390, vr 81, vi (t : Int), vi (xor_ (u : Int) (xshl 1 f)), vi f, vi (wr ((k : Int) + 1)), v6, v7] [] V2 D Q) ∧ (f = ((-1)) → RY d 338 8 [vr 390, vr 81, vi (t : Int), vi (xor_ (u : Int) 0), vi f, vi (wr ((k : Int) + 1)), v6, v7] [] V2 D Q) := by
        intro f v6 v7 hf
        have nxt := ih (k + 1) V2 v6 v7 (by clear e1; omega) F2
        rw [hnx, ← hf] at nxt
        rw [e1, hux]
        refine ⟨fun hn => ?_, fun hn => ?_⟩
        · rw [if_neg hn] at nxt
          rcases fndF_b (p := p) (ls := ls) (t := k) (u := u) with e | ⟨r, e, hr⟩
          · exact absurd (hf.trans e) hn
          · rw [hf, e] at nxt ⊢
            rw [nn_toNat] at nxt
            rw [(orN_i hu32 (by clear e1; omega)).1]
            exact nxt
        · rw [if_pos hn] at nxt
          exact nxt
      have q1v : V2 (396 + (k + 1)) u = dpT p ls (k + 1) u := hM2 (k + 1) u (Nat.zero_le _) (by clear e1; omega) hu32
      have q2v : V2 (396 + k) u = dpT p ls k u := hM2 k u (Nat.zero_le _) (by clear e1; omega) hu32
      have hle := dpT_le (ls := ls) hW (t := k) (u := u) (by clear e1; omega)
      have y1 := yR395 (lw := D.2.1) (kd := D.2.2.1) (t := k + 1) (by clear e1; omega)
      have y2 := yR395 (lw := D.2.1) (kd := D.2.2.1) (t := k) (by clear e1; omega)
      have gk : (0 : Int) ≤ ((k + 1 : Nat) : Int) ∧ ((k + 1 : Nat) : Int) < (6 : Int) := by clear e1; omega
      have gk2 : (0 : Int) ≤ (k : Int) ∧ (k : Int) < (6 : Int) := by clear e1; omega
      have gu : (0 : Int) ≤ (u : Int) ∧ (u : Int) < ((32 : Nat) : Int) := by clear e1; omega
      have k1 := yK396 (kd := D.2.2.1) (t := k + 1) (by clear e1; omega)
      have k2 := yK396 (kd := D.2.2.1) (t := k) (by clear e1; omega)
      have look : ∀ (m' r : Nat), (m' : Int) + r = p 3 → (∀ i, i < r → wyB p ls k u i = false) → RY d 338 31 [vr 390, vr 81, vi (t : Int), vi (u : Int), vi (-1), vi (k : Int), vi (xor_ (rfbF p ls k) (u : Int)), vi (r : Int)] [] V2 D Q := by
        intro m'
        induction m' with
        | zero =>
          intro r hr hno
          have hf : -1 = fndF p ls k u := by
            unfold fndF
            split
            · rfl
            · rcases fstB_spec (wyB p ls k u) (p 3).toNat with ⟨e, _⟩ | ⟨m, e, h1, h2, _⟩
              · exact e.symm
              · rw [hno m (by clear e1; omega)] at h2; cases h2
          refine u_338_31_81 ⟨fun _ => out _ _ _ hf, fun hlt => ?_⟩
          rw [hL2.1.rooms] at hlt
          clear e1; omega
        | succ m' ihr =>
          intro r hr hno
          have hr3 : (r : Int) < p 3 := by clear e1; omega
          have hr5 : r < 5 := by clear e1; omega
          have er : wr ((r : Int) + 1) = ((r + 1 : Nat) : Int) := by clear e1; rw [wr_id (by omega) (by omega)]; omega
          have hlor := tb_lor (rfb_b (ls := ls) (t := k) hW) (y := (u : Int)) (by clear e1 er; omega)
          have hbt := bit_tb hlor.1 hr5
          rw [hlor.2 r hr5, tb_rfb hW hr3] at hbt
          obtain ⟨o1, o2⟩ := orN_i hu32 hr5
          have q3v : V2 (396 + (k + 1)) (orN u r) = dpT p ls (k + 1) (orN u r) := hM2 (k + 1) _ (Nat.zero_le _) (by clear e1 er; omega) o2
          have b1 := dpT_b (ls := ls) (t := k + 1) (u := orN u r) hW
          have b2 := hW.rent hr3
          have es : wr (rR p r + dpT p ls (k + 1) (orN u r)) = rR p r + dpT p ls (k + 1) (orN u r) := wr_id (by clear e1 er; omega) (by clear e1 er; omega)
          refine u_338_31_81 ⟨fun hle => ?_, fun _ => ⟨yK395, by rw [e1]; exact gk, by rw [e1, nn_toNat, y1]; clear e1 er es; omega, ?_⟩⟩
          · rw [hL2.1.rooms] at hle
            clear e1 er es; omega
          rw [e1]
          rw [nn_toNat, y1]
          rintro q1 rfl
          rw [k1]
          refine ⟨⟨by decide, by decide⟩, gu, yK395, gk2, by rw [nn_toNat, y2]; clear e1 er es; omega, ?_⟩
          rw [nn_toNat, y2]
          rintro q2 rfl
          rw [k2, nn_toNat, q1v, q2v]
          refine ⟨⟨by decide, by decide⟩, gu, fun hge => ?_, fun hlt => ⟨fun hn => absurd rfl hn, fun _ => ⟨fun hb => ?_, fun hb => ?_⟩⟩⟩
          · have hf : -1 = fndF p ls k u := by
              unfold fndF
              rw [if_pos (Int.le_antisymm hle hge)]
            have := out (-1) (vi (xor_ (rfbF p ls k) (u : Int))) (vi (r : Int)) hf
            rw [e1] at this
            exact this
          · rw [hbt] at hb
            have hb : (rFR p ls k r || tb (u : Int) r) = true := Classical.byContradiction fun g => hb (if_neg g)
            have hno2 : wyB p ls k u r = false := by unfold wyB okU; rw [← Bool.not_or, hb]; rfl
            rw [er]
            refine ihr (r + 1) (by clear e1 er es; omega) fun i hi => ?_
            by_cases e : i = r
            · rw [e]; exact hno2
            · exact hno i (by clear e1 er es; omega)
          · rw [hbt] at hb
            have hyes : okU p ls k u r = true := by
              unfold okU
              rw [← Bool.not_or]
              cases hx : (rFR p ls k r || tb (u : Int) r)
              · rfl
              · rw [hx] at hb; exact absurd hb (by decide)
            rw [o1]
            refine ⟨by clear e1 er es; omega, yK395, gk, by clear e1 er es; omega, ?_⟩
            rintro q3 rfl
            rw [k1]
            refine ⟨⟨by decide, by decide⟩, ⟨by clear e1 er es; omega, by show ((orN u r : Nat) : Int) < ((32 : Nat) : Int); clear e1 er es; omega⟩, yK395, gk2, by clear e1 er es; omega, ?_⟩
            rintro q4 rfl
            rw [k2, nn_toNat, nn_toNat, q3v, q2v, hL2.rn_81 hr5, es]
            refine ⟨⟨by decide, by decide⟩, gu, fun hne => ?_, fun he => ?_⟩
            · have hno2 : wyB p ls k u r = false := by unfold wyB; rw [decide_eq_false hne, Bool.and_false]
              rw [er]
              refine ihr (r + 1) (by clear e1 er es; omega) fun i hi => ?_
              by_cases e : i = r
              · rw [e]; exact hno2
              · exact hno i (by clear e1 er es; omega)
            · have hyw : wyB p ls k u r = true := by unfold wyB; rw [hyes, decide_eq_true he]; rfl
              have hf : (r : Int) = fndF p ls k u := by
                unfold fndF
                rw [if_neg (by clear e1 er es; omega)]
                rcases fstB_spec (wyB p ls k u) (p 3).toNat with ⟨_, e⟩ | ⟨m, e, h1, h2, h5⟩
                · rw [e r (by clear e1 er es; omega)] at hyw; cases hyw
                · rw [e]
                  have : ¬ m < r := fun g => by rw [hno m g] at h2; cases h2
                  have : ¬ r < m := fun g => by rw [h5 r g] at hyw; cases hyw
                  clear e1 er es; omega
              have o := out (r : Int) (vi (xor_ (rfbF p ls k) (u : Int))) (vi (wr ((r : Int) + 1))) hf
              refine u_338_31_81 ⟨fun _ => o, fun _ => ⟨yK395, by rw [e1]; exact gk, by rw [e1, nn_toNat, y1]; clear e1 er es; omega, ?_⟩⟩
              rw [e1]
              rw [e1] at o
              rw [nn_toNat, y1]
              rintro q1 rfl
              rw [k1]
              refine ⟨⟨by decide, by decide⟩, gu, yK395, gk2, by rw [nn_toNat, y2]; clear e1 er es; omega, ?_⟩
              rw [nn_toNat, y2]
              rintro q2 rfl
              rw [k2, nn_toNat, q1v, q2v]
              refine ⟨⟨by decide, by decide⟩, gu, fun _ => o, fun _ => ⟨fun _ => o, fun hn => absurd hn (by clear e1 er es; omega)⟩⟩
      exact look (p 3).toNat 0 (by clear e1; omega) (fun i hi => absurd hi (Nat.not_lt_zero _))
  exact go (t + 1) 0 V (vr 0) (vr 0) rfl Fr.rf
theorem ca_lets {t : Int} (hS : St V 81 p) (hB : V 2 = xback5) (hW : WF p) (hO : LO V D (D.2.1 81) ls) (h : ∀ V' D', Cor V V' → CorD D D' → Q (cRes (aLets p ls t)) V' D') : RY d 202 0 [vr 70, vi t] [] V D Q := by
  unfold aLets at h
  have main : (t = -1 ∨ (0 ≤ t ∧ t < p 4)) → RY d 204 0 [vr 390, vr 81, vr 0, vr 0] [] V D (yback d 202 21 [vr 70, vi t] [] Q) := by
    intro hy
    rw [aIf_y hy] at h
    refine lc_hear_81 hS hB hW hO fun V1 hL1 hF1 => ?_
    show RY d 202 21 _ _ V1 D Q
    refine u_202_21 (c_lets0 hL1 fun V2 v4 v5 v6 hF2 hM2 => ?_)
    have hL2 := hL1.fr hF2 (by decide) (by decide)
    have C2 : Cor V V2 := (FLcor hF1).tr (hF2.cor (by decide))
    unfold letsF at h
    refine u_280_20_81 ⟨fun _ => ⟨fun hn => ?_, fun hn => ?_⟩, fun hle => absurd hle (by decide)⟩
    · have ht : 0 ≤ t ∧ t < p 4 := by rcases hy with g | g; exact absurd g hn; exact g
      rw [if_neg hn] at h
      obtain ⟨t, rfl⟩ : ∃ m : Nat, t = (m : Int) := ⟨t.toNat, by omega⟩
      rw [nn_toNat] at h
      refine c_way1 hL2 hM2 ht.2 fun V3 hF3 => ?_
      show RY d 280 172 _ _ V3 D _
      refine u_280_172_81 ?_
      show RY d 202 33 _ _ V3 D Q
      exact u_202_33 (h V3 D (C2.tr (hF3.cor (by decide))) CorD.rf)
    · rw [if_pos hn] at h
      show RY d 202 33 _ _ V2 D Q
      refine u_202_33 ?_
      rw [show V2 396 0 = dpT p ls 0 0 from hM2 0 0 (Nat.le_refl _) (Nat.zero_le _) (by decide)]
      exact h V2 D C2 CorD.rf
  refine u_202_0 ⟨fun hn => main (Or.inl hn), fun hn => c_needTenant hS (fun t0 t1 => u_202_10 (main (Or.inr ⟨t0, t1⟩))) (fun hb => ⟨rfl, ?_⟩)⟩
  rw [aIf_n (by rintro (g | g); exact hn g; exact hb g)] at h
  exact h V _ Cor.rf CorD.exc
end LETS2
