/-! ===== CHOICES OF TWO WHO BID ===== -/
def gn (es : Int) (rich : Bool) (own oth : Int) : Int := if own = 1 then (if oth = 1 then -1 else 0) else if oth = 1 then wr (es.tdiv 2) else if rich = true then wr (es - 8) else -2
def richB (p : Rw) (t o : Nat) : Bool := decide (tP_ p o < tP_ p t)
def rsB (p : Rw) (ls : List Ln) (t o r : Nat) (c : Nat) : Bool := !decide (gn (eR p ls t r) (richB p t o) ((c : Int).tdiv 2) ((c : Int).tmod 2) < gn (eR p ls t r) (richB p t o) (1 - (c : Int).tdiv 2) ((c : Int).tmod 2)) && !decide (gn (eR p ls o r) (richB p o t) ((c : Int).tmod 2) ((c : Int).tdiv 2) < gn (eR p ls o r) (richB p o t) (1 - (c : Int).tmod 2) ((c : Int).tdiv 2))
def restF (p : Rw) (ls : List Ln) (t o r : Nat) : Int := bitsT (rsB p ls t o r) 4
def torP (p : Rw) (t o r : Int) : Prop := (0 ≤ t ∧ t < p 4) ∧ (0 ≤ o ∧ o < p 4) ∧ 0 ≤ r ∧ r < p 3
noncomputable def aRests (p : Rw) (ls : List Ln) (t o r : Int) : aRes := aIf (torP p t o r) (aIf (t = o) (.inr 0) (.inl (restF p ls t.toNat o.toNat r.toNat))) (.inr 2)
section RESTS
variable {d : Nat} {V : xF} {D : yD} {Q : xRes → xF → yD → Prop} {p : Rw} {ls : List Ln}
theorem ch4 {c : Nat} (hc : c < 4) : wr ((c : Int).tdiv 2) = (c : Int).tdiv 2 ∧ wr (1 - wr ((c : Int).tdiv 2)) = 1 - (c : Int).tdiv 2 ∧ wr (1 - (c : Int).tmod 2) = 1 - (c : Int).tmod 2 ∧ wr ((c : Int) + 1) = ((c + 1 : Nat) : Int) := by
  have : c = 0 ∨ c = 1 ∨ c = 2 ∨ c = 3 := by omega
  rcases this with rfl | rfl | rfl | rfl <;> decide
theorem rs_c {R e : Int} {own oth : Int} {b : Bool} (h : decide (0 < R) = b) : yr_340 own oth e R V D = gn e b own oth := by
  unfold yr_340 gn
  rw [← h]
  by_cases hR : 0 < R
  · rw [decide_eq_true hR, if_pos hR, if_pos rfl]
  · rw [decide_eq_false hR, if_neg hR, if_neg (show ¬ (false = true) by decide)]
theorem c_rests (hL : LC 81 V D p ls) {t o r : Nat} (ht : (t : Int) < p 4) (ho : (o : Int) < p 4) (hr : (r : Int) < p 3) (h : ∀ V', Fr [394] V V' → Q (.inl (some (vi (restF p ls t o r)))) V' D) : RY d 284 0 [vr 390, vr 81, vi (t : Int), vi (o : Int), vi (r : Int), vr 0, vr 0, vr 0, vr 0, vr 0, vr 0, vr 0] [] V D Q := by
  have hW := hL.2.1
  have h3 := hW.1
  have ht5 := (hW.ten ht).1
  have ho5 := (hW.ten ho).1
  have hr5 : r < 5 := by omega
  refine u_284_0_81 ⟨by omega, ?_⟩
  rw [nn_toNat, hL.rn_81 hr5]
  refine c_es_81 hL ht hr (hW.rent hr) fun V1 hF1 => ?_
  show RY d 284 15 _ _ V1 D Q
  have hL1 := hL.fr hF1 (by decide) (by decide)
  refine u_284_15_81 ⟨by omega, ?_⟩
  rw [nn_toNat, hL1.rn_81 hr5]
  refine c_es_81 hL1 ho hr (hW.rent hr) fun V2 hF2 => ?_
  show RY d 284 32 _ _ V2 D Q
  have hL2 := hL1.fr hF2 (by decide) (by decide)
  refine u_284_32_81 ⟨by omega, by omega, ?_⟩
  rw [nn_toNat, nn_toNat, show V2 87 t = tP_ p t from hL2.1.2.2.2.2.2.2.2.1 t ht5, show V2 87 o = tP_ p o from hL2.1.2.2.2.2.2.2.2.1 o ho5]
  obtain ⟨R, hR⟩ : ∃ R, R = yr_339 (tP_ p t) (tP_ p o) V2 D := ⟨_, rfl⟩
  rw [← hR]
  have hRb : (R = -1 ∧ tP_ p t < tP_ p o) ∨ (R = 0 ∧ tP_ p t = tP_ p o) ∨ (R = 1 ∧ tP_ p o < tP_ p t) := by
    rw [hR]
    unfold yr_339
    (repeat' split) <;> omega
  have r1 : decide (0 < R) = richB p t o := by
    show decide (0 < R) = decide (tP_ p o < tP_ p t)
    rw [decide_eq_decide]
    omega
  have r2 : decide (0 < wr (-R)) = richB p o t := by
    show decide (0 < wr (-R)) = decide (tP_ p t < tP_ p o)
    rw [wr_id (by omega) (by omega), decide_eq_decide]
    omega
  have go : ∀ (m k : Nat) (v10 v11 : xV), m + k = 4 → RY d 284 57 [vr 390, vr 81, vi (t : Int), vi (o : Int), vi (r : Int), vi (eS p ls t r (rR p r)), vi (eS p ls o r (rR p r)), vi R, vi (bitsT (rsB p ls t o r) k), vi (k : Int), v10, v11] [] V2 D Q := by
    intro m
    induction m with
    | zero =>
      intro k v10 v11 hk
      have hk : k = 4 := by omega
      subst hk
      exact u_284_57_81 ⟨fun _ => h V2 (hF1.tr hF2), fun hlt => absurd hlt (by decide)⟩
    | succ m ih =>
      intro k v10 v11 hk
      obtain ⟨w1, w2, w3, w4⟩ := ch4 (c := k) (by omega)
      have hu : bitsT (rsB p ls t o r) (k + 1) = if rsB p ls t o r k = true then xor_ (bitsT (rsB p ls t o r) k) (xshl 1 (k : Int)) else bitsT (rsB p ls t o r) k := rfl
      have nxt := fun a b => ih (k + 1) a b (by clear w1 w2 w3 w4; omega)
      rw [hu] at nxt
      refine u_284_57_81 ⟨fun hle => ?_, fun _ => ?_⟩
      · clear w1 w2 w3 w4; omega
      · rw [w1, w3, w4, show wr (1 - (k : Int).tdiv 2) = 1 - (k : Int).tdiv 2 by rw [w1] at w2; exact w2]
        rw [rs_c r1, rs_c r1, rs_c r2, rs_c r2]
        refine ⟨fun hlt => ?_, fun hle => ⟨fun hlt => ?_, fun hle2 => ?_⟩⟩
        · rw [if_neg (by unfold rsB; rw [decide_eq_true hlt]; simp)] at nxt
          exact nxt _ _
        · rw [if_neg (by unfold rsB; rw [decide_eq_true hlt]; simp)] at nxt
          exact nxt _ _
        · rw [if_pos (by unfold rsB; rw [decide_eq_false (Int.not_lt.mpr hle), decide_eq_false (Int.not_lt.mpr hle2)]; rfl)] at nxt
          exact nxt _ _
  exact go 4 0 _ _ rfl
theorem m_hasBy (hM : MC V p ls) (hB : Bv V) (hd : 30 ≤ d) {t o r : Nat} {own oth : Int} (ht : (t : Int) < p 4) (ho : (o : Int) < p 4) (hr : (r : Int) < p 3) (h : ∀ V', askF V V' → MC V' p ls → Q (.inl (some (vi (gn (eR p ls t r) (richB p t o) own oth)))) V' D) : RY d 209 0 [vr 405, vi (t : Int), vi (o : Int), vi (r : Int), vi own, vi oth, vr 0] [] V D Q := by
  have hW := hM.2.1
  have ht5 := (hW.ten ht).1
  have ho5 := (hW.ten ho).1
  refine u_209_0 ⟨fun hn => ?_, fun hy => ?_⟩
  · refine m_es hM hd ht hr fun V1 hF hM1 => ?_
    have hq := h V1 hF hM1
    unfold gn at hq
    rw [if_neg hn] at hq
    show RY d 209 24 _ _ V1 D Q
    refine u_209_24 ⟨fun h1 => ⟨yg143 ht5 (by omega), yg143 ho5 (by omega), ?_⟩, fun h1 => ?_⟩
    · rw [yr143_0 ht5, yr143_0 ho5, hM1.1]
      rw [if_neg h1] at hq
      refine ⟨fun hle => ?_, fun hlt => ?_⟩
      · rw [if_neg (by unfold richB; rw [decide_eq_false (Int.not_lt.mpr hle)]; decide)] at hq
        exact hq
      · rw [if_pos (by unfold richB; exact decide_eq_true hlt)] at hq
        exact hq
    · rw [if_pos h1] at hq
      exact hq
  · have hq := h V (askF.rf hB) hM
    unfold gn at hq
    rw [if_pos hy] at hq
    refine ⟨fun h1 => ?_, fun h1 => ?_⟩
    · rw [if_neg h1] at hq; exact hq
    · rw [if_pos h1] at hq; exact hq
theorem m_rests (hM : MC V p ls) (hB : Bv V) (hd : 30 ≤ d) {t o r : Nat} (ht : (t : Int) < p 4) (ho : (o : Int) < p 4) (hr : (r : Int) < p 3) (h : ∀ V', askF V V' → MC V' p ls → Q (.inl (some (vi (restF p ls t o r)))) V' D) {v6 v7 : xV} : RY d 76 57 [vr 405, vi (t : Int), vi (o : Int), vi (r : Int), vi 0, vi 0, v6, v7] [] V D Q := by
  have go : ∀ (m k : Nat) (V1 : xF) (v6 v7 : xV), m + k = 4 → askF V V1 → MC V1 p ls → RY d 76 57 [vr 405, vi (t : Int), vi (o : Int), vi (r : Int), vi (bitsT (rsB p ls t o r) k), vi (k : Int), v6, v7] [] V1 D Q := by
    intro m
    induction m with
    | zero =>
      intro k V1 v6 v7 hk hF hM1
      have hk : k = 4 := by omega
      subst hk
      exact u_76_57 ⟨fun _ => h V1 hF hM1, fun hlt => absurd hlt (by decide)⟩
    | succ m ih =>
      intro k V1 v6 v7 hk hF hM1
      obtain ⟨w1, w2, w3, w4⟩ := ch4 (c := k) (by omega)
      have hu : bitsT (rsB p ls t o r) (k + 1) = if rsB p ls t o r k = true then xor_ (bitsT (rsB p ls t o r) k) (xshl 1 (k : Int)) else bitsT (rsB p ls t o r) k := rfl
      have nxt := fun V2 a b => ih (k + 1) V2 a b (by clear w1 w2 w3 w4; omega)
      rw [hu] at nxt
      have w2' : wr (1 - (k : Int).tdiv 2) = 1 - (k : Int).tdiv 2 := by rw [w1] at w2; exact w2
      refine u_76_57 ⟨fun hle => ?_, fun _ => ?_⟩
      · clear w1 w2 w3 w4 w2'; omega
      · rw [w1, w2']
        refine m_hasBy hM1 hF.2.2 hd ht ho hr fun V2 hF2 hM2 => ?_
        show RY d 76 88 _ _ V2 D Q
        refine u_76_88 (m_hasBy hM2 hF2.2.2 hd ht ho hr fun V3 hF3 hM3 => ?_)
        show RY d 76 99 _ _ V3 D Q
        have F3 := (hF.tr hF2).tr hF3
        refine u_76_99 ⟨fun hlt => ?_, fun hle => ?_⟩
        · rw [if_neg (by unfold rsB; rw [decide_eq_true hlt]; simp)] at nxt
          rw [w4]
          exact nxt V3 _ _ F3 hM3
        · rw [w3]
          refine m_hasBy hM3 hF3.2.2 hd ho ht hr fun V4 hF4 hM4 => ?_
          show RY d 76 115 _ _ V4 D Q
          refine u_76_115 (m_hasBy hM4 hF4.2.2 hd ho ht hr fun V5 hF5 hM5 => ?_)
          show RY d 76 126 _ _ V5 D Q
          have F5 := (F3.tr hF4).tr hF5
          refine u_76_126 ⟨fun hlt => ?_, fun hle2 => ?_⟩
          · rw [if_neg (by unfold rsB; rw [decide_eq_true hlt]; simp)] at nxt
            rw [w4]
            exact nxt V5 _ _ F5 hM5
          · rw [if_pos (by unfold rsB; rw [decide_eq_false (Int.not_lt.mpr hle), decide_eq_false (Int.not_lt.mpr hle2)]; rfl)] at nxt
            rw [w4]
            exact nxt V5 _ _ F5 hM5
  exact go 4 0 V _ _ rfl (askF.rf hB) hM
theorem ca_rests {t o r : Int} (hS : St V 81 p) (hB : V 2 = xback5) (hW : WF p) (hO : LO V D (D.2.1 81) ls) (h : ∀ V' D', Cor V V' → CorD D D' → Q (cRes (aRests p ls t o r)) V' D') : RY d 208 0 [vr 70, vi t, vi o, vi r] [] V D Q := by
  unfold aRests at h
  have no : ¬ torP p t o r → Q (.inr 2) V (excD D) := fun hn => by rw [aIf_n hn] at h; exact h V _ Cor.rf CorD.exc
  refine u_208_0 (c_needTenant hS (fun t0 t1 => ?_) (fun hn => ⟨rfl, no (fun g => hn g.1)⟩))
  refine u_208_5 (c_needTenant hS (fun o0 o1 => ?_) (fun hn => ⟨rfl, no (fun g => hn g.2.1)⟩))
  refine u_208_10 (c_needRoom hS (fun hr => ?_) (fun hn => ⟨rfl, no (fun g => hn g.2.2)⟩))
  rw [aIf_y ⟨⟨t0, t1⟩, ⟨o0, o1⟩, hr⟩] at h
  refine u_208_15 (u_283_0 ⟨fun hn => ?_, fun he => ?_⟩)
  · rw [aIf_n hn] at h
    show RY d 208 21 _ _ V D Q
    obtain ⟨t, rfl⟩ : ∃ m : Nat, t = (m : Int) := ⟨t.toNat, by omega⟩
    obtain ⟨o, rfl⟩ : ∃ m : Nat, o = (m : Int) := ⟨o.toNat, by omega⟩
    obtain ⟨r, rfl⟩ : ∃ m : Nat, r = (m : Int) := ⟨r.toNat, by omega⟩
    rw [nn_toNat, nn_toNat, nn_toNat] at h
    refine u_208_21 (lc_hear_81 hS hB hW hO fun V1 hL1 hF1 => ?_)
    show RY d 208 32 _ _ V1 D Q
    refine u_208_32 (c_rests hL1 t1 o1 hr.2 fun V2 hF2 => ?_)
    show RY d 208 46 _ _ V2 D Q
    exact u_208_46 (h V2 D ((FLcor hF1).tr (hF2.cor (by decide))) CorD.rf)
  · rw [aIf_y he] at h
    exact ⟨rfl, h V _ Cor.rf CorD.exc⟩
theorem ma_rests {t o r : Int} (hM : MC V p ls) (hB : Bv V) (hd : 30 ≤ d) (h : ∀ V', V' 405 0 = mCd 2 (aRests p ls t o r) → Cor V V' → Q (.inl (some (vi (mVal (aRests p ls t o r))))) V' D) : RY d 76 0 [vr 405, vi t, vi o, vi r, vr 0, vr 0, vr 0, vr 0] [] V D Q := by
  unfold aRests at h
  obtain ⟨hE, hW, hT, hw⟩ := id hM
  have bad : ∀ z : Int, 0 < z → (∀ V1 : xF, V1 405 0 = z → Cor V V1 → Q (.inl (some (vi 0))) V1 D) → ∀ V1 : xF, V1 = up2 V 405 0 z → (((V1 405 0) ≤ 0 → RY d 76 57 [vr 405, vi t, vi o, vi r, vi 0, vi 0, vr 0, vr 0] [] V1 D Q) ∧ ((0 : Int) < (V1 405 0) → Q (.inl (some (vi 0))) V1 D)) := by
    rintro z hz hq V1 hV1
    have t0 : V1 405 0 = z := by rw [hV1]; exact v405.1
    exact ⟨fun g => by omega, fun _ => hq V1 t0 (by rw [hV1]; exact v405.2.2)⟩
  have no : ¬ torP p t o r → ∀ V1 : xF, V1 405 0 = 1 → Cor V V1 → Q (.inl (some (vi 0))) V1 D := fun hn V1 t0 C1 => by rw [aIf_n hn] at h; exact h V1 t0 C1
  refine u_76_0 ⟨yg142, ?_⟩
  rw [yr142 (by rw [hE]; exact hW), hE]
  by_cases ht : 0 ≤ t ∧ t < p 4
  · rw [if_pos ht]
    refine ⟨fun g => absurd g (by decide), fun _ => ⟨yg142, ?_⟩⟩
    rw [yr142 (by rw [hE]; exact hW), hE]
    by_cases ho : 0 ≤ o ∧ o < p 4
    · rw [if_pos ho]
      refine ⟨fun g => absurd g (by decide), fun _ => ⟨yg132, ?_⟩⟩
      rw [yr132 (by rw [hE]; exact hW), hE]
      by_cases hr : 0 ≤ r ∧ r < p 3
      · rw [if_pos hr]
        rw [aIf_y ⟨ht, ho, hr⟩] at h
        refine ⟨fun _ => ⟨fun hn => ?_, fun he => ?_⟩, fun g => absurd g (by decide)⟩
        · rw [aIf_n hn] at h
          rintro V1 hV1
          have t0 : V1 405 0 = 0 := by rw [hV1]; exact v405.1
          have C1 : Cor V V1 := by rw [hV1]; exact v405.2.2
          clear hV1
          obtain ⟨t, rfl⟩ : ∃ m : Nat, t = (m : Int) := ⟨t.toNat, by omega⟩
          obtain ⟨o, rfl⟩ : ∃ m : Nat, o = (m : Int) := ⟨o.toNat, by omega⟩
          obtain ⟨r, rfl⟩ : ∃ m : Nat, r = (m : Int) := ⟨r.toNat, by omega⟩
          rw [nn_toNat, nn_toNat, nn_toNat] at h
          refine ⟨fun _ => ?_, fun g => by omega⟩
          exact m_rests (hM.c C1) (C1.2.2.2.2.2.2 hB) hd ht.2 ho.2 hr.2 fun V2 hF2 hM2 => h V2 (by rw [hF2.z, t0]; rfl) (C1.tr hF2.cor)
        · rw [aIf_y he] at h
          exact bad 2 (by decide) (fun V1 t0 C1 => h V1 t0 C1)
      · rw [if_neg hr]
        exact ⟨fun g => absurd rfl g, fun _ => bad 1 (by decide) (no (fun g => hr g.2.2))⟩
    · rw [if_neg ho]
      exact ⟨fun _ => bad 1 (by decide) (no (fun g => ho g.2.1)), fun g => absurd rfl g⟩
  · rw [if_neg ht]
    exact ⟨fun _ => bad 1 (by decide) (no (fun g => ht g.1)), fun g => absurd rfl g⟩
end RESTS
