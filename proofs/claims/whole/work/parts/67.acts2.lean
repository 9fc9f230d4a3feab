/-! ===== STEP, DOOR, TAKE, CLAP ===== -/
section ACTS2
variable {d : Nat} {V : xF} {D : yD} {Q : xRes → xF → yD → Prop} {p : Rw}
/-- a cell of the row is told twice: a door -/
theorem rup2 {p : Rw} {i j k : Nat} {z : Int} : rup (rup p i z) j z k = if k = i ∨ k = j then z else p k := by
  unfold rup
  by_cases h1 : k = j
  · rw [if_pos h1, if_pos (Or.inr h1)]
  · rw [if_neg h1]
    by_cases h2 : k = i
    · rw [if_pos h2, if_pos (Or.inl h2)]
    · rw [if_neg h2, if_neg (by omega)]
def drR (p : Rw) (r o : Nat) (z : Int) : Rw := rup (rup p (66 + 5 * r + o) z) (66 + 5 * o + r) z
noncomputable def aDoor (p : Rw) (r o b : Int) : aAct := sIf (twoR p r o) (sIf (r = o) (.inr 0) (.inl (if (if dO_ p r.toNat o.toNat = 1 then 1 else 0) = b then 0 else 1, drR p r.toNat o.toNat (if b = 0 then 0 else 1)))) (.inr 2)
theorem dB_set {p : Rw} (hW : WF p) {r o : Nat} {z : Int} (hr : r < 5) (ho : o < 5) (hz : z = 0 ∨ z = 1) (q : Rw) (hq : ∀ j, j < 5 → dO_ q r j = if j = o then z else dO_ p r j) :
    dB_ q r = if z = 0 then xand (dB_ p r) (xxor (xshl 1 (o : Int)) (-1)) else xor_ (dB_ p r) (xshl 1 (o : Int)) := by
  have h1 := tb_one ho
  have hb := dB_b hW hr
  have b01 : ∀ j, j < 5 → dO_ q r j = 0 ∨ dO_ q r j = 1 := by
    intro j hj
    rw [hq j hj]
    split
    · exact hz
    · exact (hW.dor hr hj).1
  have B := bits5 (b01 0 (by omega)) (b01 1 (by omega)) (b01 2 (by omega)) (b01 3 (by omega)) (b01 4 (by omega))
  have hqb : 0 ≤ dB_ q r ∧ dB_ q r < 32 := B.1
  have tq : ∀ j, j < 5 → tb (dB_ q r) j = decide (dO_ q r j = 1) := by
    intro j hj
    have hx : xand (xshr (dB_ q r) (j : Int)) 1 = dO_ q r j := by
      have : j = 0 ∨ j = 1 ∨ j = 2 ∨ j = 3 ∨ j = 4 := by omega
      rcases this with e | e | e | e | e <;> subst e
      · exact B.2.1
      · exact B.2.2.1
      · exact B.2.2.2.1
      · exact B.2.2.2.2.1
      · exact B.2.2.2.2.2
    rw [bit_tb hqb hj] at hx
    cases hb : tb (dB_ q r) j with
    | true => rw [hb, if_pos rfl] at hx; rw [← hx]; rfl
    | false => rw [hb, if_neg (by decide)] at hx; rw [← hx]; rfl
  have td := tb_dif hb h1.1
  have tl := tb_lor hb h1.1
  rcases hz with e | e
  · rw [if_pos e]
    refine tb_ext hqb td.1 fun j hj => ?_
    rw [tq j hj, td.2 j hj, h1.2 j hj, hq j hj, dB_tb hW hr hj]
    by_cases e2 : j = o
    · subst e2; simp [e]
    · simp [e2]
  · rw [if_neg (by omega)]
    refine tb_ext hqb tl.1 fun j hj => ?_
    rw [tq j hj, tl.2 j hj, h1.2 j hj, hq j hj, dB_tb hW hr hj]
    by_cases e2 : j = o
    · subst e2; simp [e]
    · simp [e2]
theorem drR_d {p : Rw} {r o : Nat} {z : Int} (hr : r < 5) (ho : o < 5) (hn : r ≠ o) : (∀ j, j < 5 → dO_ (drR p r o z) r j = if j = o then z else dO_ p r j) ∧ (∀ j, j < 5 → dO_ (drR p r o z) o j = if j = r then z else dO_ p o j) ∧ (∀ a j, a < 5 → j < 5 → a ≠ r → a ≠ o → dO_ (drR p r o z) a j = dO_ p a j) ∧ (∀ k, (k < 66 ∨ 91 ≤ k) → drR p r o z k = p k) := by
  unfold dO_ drR
  refine ⟨fun j hj => ?_, fun j hj => ?_, fun a j ha hj h1 h2 => ?_, fun k hk => ?_⟩
  · rw [rup2]
    by_cases e : j = o
    · rw [if_pos (by omega), if_pos e]
    · rw [if_neg (by omega), if_neg e]
  · rw [rup2]
    by_cases e : j = r
    · rw [if_pos (by omega), if_pos e]
    · rw [if_neg (by omega), if_neg e]
  · rw [rup2, if_neg (by omega)]
  · rw [rup2, if_neg (by omega)]
theorem st_door {s r o : Nat} {z : Int} (hS : St V s p) (hW : WF p) (hr : r < 5) (ho : o < 5) (hn : r ≠ o) (hz : z = 0 ∨ z = 1) {V' : xF} (h5 : ∀ a, a ≠ s + 5 → V' a = V a) (h6 : ∀ j, V' (s + 5) j = if j = r then dB_ (drR p r o z) r else if j = o then dB_ (drR p r o z) o else V (s + 5) j) : St V' s (drR p r o z) := by
  obtain ⟨g0, g1, g2, g3, g4, g5, g6, g7, g8, g9, g10, g12, g13, g14, g15, g16, g17, g18, g19, g20, g21, g22⟩ := hS
  obtain ⟨k1, k2, k3, k4⟩ := drR_d (p := p) (z := z) hr ho hn
  have u : ∀ k, k ≠ 5 → V' (s + k) = V (s + k) := fun k hk => h5 _ (by omega)
  have u0 : V' s = V s := u 0 (by omega)
  unfold St
  rw [u0, u 1 (by omega), u 2 (by omega), u 3 (by omega), u 4 (by omega), u 6 (by omega), u 7 (by omega), u 8 (by omega), u 9 (by omega), u 10 (by omega)]
  unfold rW rD rS rR tP_ tW_ tL_ at *
  rw [k4 3 (by omega), k4 4 (by omega), k4 0 (by omega), k4 5 (by omega), k4 6 (by omega), k4 7 (by omega), k4 8 (by omega), k4 9 (by omega), k4 10 (by omega), k4 11 (by omega), k4 12 (by omega), k4 15 (by omega), k4 13 (by omega), k4 14 (by omega)]
  refine ⟨g0, fun r' h => ?_, fun r' h => ?_, fun r' w' h h' => ?_, fun r' h => ?_, fun r' h => ?_, g6, fun t h => ?_, fun t h => ?_, fun t h => ?_, g10, g12, g13, g14, g15, g16, g17, g18, g19, g20, g21, fun k h => ?_⟩
  · rw [k4 _ (by omega)]; exact g1 r' h
  · rw [k4 _ (by omega)]; exact g2 r' h
  · rw [k4 _ (by omega)]; exact g3 r' w' h h'
  · rw [k4 _ (by omega)]; exact g4 r' h
  · rw [h6]
    by_cases e1 : r' = r
    · rw [if_pos e1, e1]
    · rw [if_neg e1]
      by_cases e2 : r' = o
      · rw [if_pos e2, e2]
      · rw [if_neg e2, g5 r' h]
        unfold dB_
        rw [k3 r' 0 h (by omega) e1 e2, k3 r' 1 h (by omega) e1 e2, k3 r' 2 h (by omega) e1 e2, k3 r' 3 h (by omega) e1 e2, k3 r' 4 h (by omega) e1 e2]
  · rw [k4 _ (by omega)]; exact g7 t h
  · rw [k4 _ (by omega)]; exact g8 t h
  · rw [k4 _ (by omega)]; exact g9 t h
  · rw [k4 _ (by omega)]; exact g22 k h
theorem c_setDoor_81 {r o b : Int} (hS : St V 81 p) (hW : WF p) (h2 : twoR p r o) (hn : r ≠ o) (h : ∀ V', St V' 81 (drR p r.toNat o.toNat (if b = 0 then 0 else 1)) → Fr [86] V V' → Q (.inl none) V' D) : RY d 262 0 [vr 81, vi r, vi o, vi b] [] V D Q := by
  obtain ⟨r5, er⟩ := hW.r5 h2.1
  obtain ⟨o5, eo⟩ := hW.r5 h2.2
  have hn' : r.toNat ≠ o.toNat := by omega
  have gB : ∀ x, x < 5 → V 86 x = dB_ p x := hS.2.2.2.2.2.1
  have ex1 : xshl 1 r = xshl 1 ((r.toNat : Nat) : Int) := by rw [er]
  have ex2 : xshl 1 o = xshl 1 ((o.toNat : Nat) : Int) := by rw [eo]
  have D1 := fun (z : Int) hz => dB_set hW (z := z) r5 o5 hz (drR p r.toNat o.toNat z) (drR_d r5 o5 hn').1
  have D2 := fun (z : Int) hz => dB_set hW (z := z) o5 r5 hz (drR p r.toNat o.toNat z) (drR_d r5 o5 hn').2.1
  refine u_262_0_81 ⟨fun h5 => ⟨⟨h2.1.1, by omega⟩, ⟨h2.1.1, by omega⟩, ?_⟩, fun h5 => ⟨⟨h2.1.1, by omega⟩, ⟨h2.1.1, by omega⟩, ?_⟩⟩
  · rintro V1 rfl
    refine ⟨fun _ => ⟨⟨h2.2.1, by omega⟩, ⟨h2.2.1, by omega⟩, ?_⟩, fun h6 => absurd h5 h6⟩
    rintro V2 rfl
    rw [if_pos h5] at h
    have d1 := D1 0 (Or.inl rfl)
    have d2 := D2 0 (Or.inl rfl)
    rw [if_pos rfl] at d1 d2
    refine h _ (st_door hS hW r5 o5 hn' (Or.inl rfl) (fun a ha => by rw [up2_na ha, up2_na ha]) (fun j => ?_)) ((Fr.up (by decide)).tr (Fr.up (by decide)))
    rw [up2_a]
    by_cases e1 : j = o.toNat
    · rw [if_pos e1, if_neg (by omega), if_pos e1, d2, up2_ni (by omega), gB _ o5, ex1]
    · rw [if_neg e1, up2_a]
      by_cases e2 : j = r.toNat
      · rw [if_pos e2, if_pos e2, d1, gB _ r5, ex2]
      · rw [if_neg e2, if_neg e2, if_neg e1]
  · rintro V1 rfl
    refine ⟨fun h6 => absurd h6 h5, fun _ => ⟨⟨h2.2.1, by omega⟩, ⟨h2.2.1, by omega⟩, ?_⟩⟩
    rintro V2 rfl
    rw [if_neg h5] at h
    have d1 := D1 1 (Or.inr rfl)
    have d2 := D2 1 (Or.inr rfl)
    rw [if_neg (by decide)] at d1 d2
    refine h _ (st_door hS hW r5 o5 hn' (Or.inr rfl) (fun a ha => by rw [up2_na ha, up2_na ha]) (fun j => ?_)) ((Fr.up (by decide)).tr (Fr.up (by decide)))
    rw [up2_a]
    by_cases e1 : j = o.toNat
    · rw [if_pos e1, if_neg (by omega), if_pos e1, d2, up2_ni (by omega), gB _ o5, ex1]
    · rw [if_neg e1, up2_a]
      by_cases e2 : j = r.toNat
      · rw [if_pos e2, if_pos e2, d1, gB _ r5, ex2]
      · rw [if_neg e2, if_neg e2, if_neg e1]
theorem c_setDoor_92 {r o b : Int} (hS : St V 92 p) (hW : WF p) (h2 : twoR p r o) (hn : r ≠ o) (h : ∀ V', St V' 92 (drR p r.toNat o.toNat (if b = 0 then 0 else 1)) → Fr [97] V V' → Q (.inl none) V' D) : RY d 262 0 [vr 92, vi r, vi o, vi b] [] V D Q := by
  obtain ⟨r5, er⟩ := hW.r5 h2.1
  obtain ⟨o5, eo⟩ := hW.r5 h2.2
  have hn' : r.toNat ≠ o.toNat := by omega
  have gB : ∀ x, x < 5 → V 97 x = dB_ p x := hS.2.2.2.2.2.1
  have ex1 : xshl 1 r = xshl 1 ((r.toNat : Nat) : Int) := by rw [er]
  have ex2 : xshl 1 o = xshl 1 ((o.toNat : Nat) : Int) := by rw [eo]
  have D1 := fun (z : Int) hz => dB_set hW (z := z) r5 o5 hz (drR p r.toNat o.toNat z) (drR_d r5 o5 hn').1
  have D2 := fun (z : Int) hz => dB_set hW (z := z) o5 r5 hz (drR p r.toNat o.toNat z) (drR_d r5 o5 hn').2.1
  refine u_262_0_92 ⟨fun h5 => ⟨⟨h2.1.1, by omega⟩, ⟨h2.1.1, by omega⟩, ?_⟩, fun h5 => ⟨⟨h2.1.1, by omega⟩, ⟨h2.1.1, by omega⟩, ?_⟩⟩
  · rintro V1 rfl
    refine ⟨fun _ => ⟨⟨h2.2.1, by omega⟩, ⟨h2.2.1, by omega⟩, ?_⟩, fun h6 => absurd h5 h6⟩
    rintro V2 rfl
    rw [if_pos h5] at h
    have d1 := D1 0 (Or.inl rfl)
    have d2 := D2 0 (Or.inl rfl)
    rw [if_pos rfl] at d1 d2
    refine h _ (st_door hS hW r5 o5 hn' (Or.inl rfl) (fun a ha => by rw [up2_na ha, up2_na ha]) (fun j => ?_)) ((Fr.up (by decide)).tr (Fr.up (by decide)))
    rw [up2_a]
    by_cases e1 : j = o.toNat
    · rw [if_pos e1, if_neg (by omega), if_pos e1, d2, up2_ni (by omega), gB _ o5, ex1]
    · rw [if_neg e1, up2_a]
      by_cases e2 : j = r.toNat
      · rw [if_pos e2, if_pos e2, d1, gB _ r5, ex2]
      · rw [if_neg e2, if_neg e2, if_neg e1]
  · rintro V1 rfl
    refine ⟨fun h6 => absurd h6 h5, fun _ => ⟨⟨h2.2.1, by omega⟩, ⟨h2.2.1, by omega⟩, ?_⟩⟩
    rintro V2 rfl
    rw [if_neg h5] at h
    have d1 := D1 1 (Or.inr rfl)
    have d2 := D2 1 (Or.inr rfl)
    rw [if_neg (by decide)] at d1 d2
    refine h _ (st_door hS hW r5 o5 hn' (Or.inr rfl) (fun a ha => by rw [up2_na ha, up2_na ha]) (fun j => ?_)) ((Fr.up (by decide)).tr (Fr.up (by decide)))
    rw [up2_a]
    by_cases e1 : j = o.toNat
    · rw [if_pos e1, if_neg (by omega), if_pos e1, d2, up2_ni (by omega), gB _ o5, ex1]
    · rw [if_neg e1, up2_a]
      by_cases e2 : j = r.toNat
      · rw [if_pos e2, if_pos e2, d1, gB _ r5, ex2]
      · rw [if_neg e2, if_neg e2, if_neg e1]
theorem ca_door {r o b : Int} (hP : PNx V D) (hS : St V 81 p) (hW : WF p) (h : ∀ V1 D1, EndC (aDoor p r o b) V D V1 D1 → Q (cRes (aR (aDoor p r o b))) V1 D1) : RY d 171 0 [vr 70, vi r, vi o, vi b, vr 0] [] V D Q := by
  unfold aDoor at h
  refine u_171_0 (c_needTwo hS (fun h2 hn => ?_) (fun h2 => ⟨rfl, by rw [sIf_n h2] at h; exact h V _ ⟨Cor.rf, CorD.exc⟩⟩) (fun h2 he => ⟨rfl, by rw [sIf_y h2, sIf_y he] at h; exact h V _ ⟨Cor.rf, CorD.exc⟩⟩))
  rw [sIf_y h2, sIf_n hn] at h
  obtain ⟨r5, er⟩ := hW.r5 h2.1
  obtain ⟨o5, eo⟩ := hW.r5 h2.2
  refine u_171_6 (c_act hP (fun V' nx a hn' ha h7' h8' hR => u_171_10 ?_))
  have S' := hR.st hn' hS
  have e : yr_251_81 r o V' (remD D nx) = if dO_ p r.toNat o.toNat = 1 then 1 else 0 := by
    unfold yr_251_81
    rw [show V' 86 r.toNat = dB_ p r.toNat from S'.2.2.2.2.2.1 _ r5, ← eo, dB_at hW r5 o5, eo]
  refine ⟨by unfold yg_251_81; omega, ?_⟩
  rw [e]
  refine c_setDoor_81 S' hW h2 hn (fun V2 S2 F2 => ?_)
  have hq := h V2 _ (ActC.of hn' ha h7' h8' hR F2 (by decide) S2 CorD.rf)
  dsimp only [aR, cRes] at hq
  refine u_171_31 ⟨fun h5 => ?_, fun h5 => ?_⟩
  · rw [if_pos h5] at hq; exact hq
  · rw [if_neg h5] at hq; exact hq
theorem ma_door {r o b : Int} {a : Nat} (h6 : V 405 6 = (a : Int)) (ha : a ≤ 12) (hW : WF (V 406)) (h : ∀ V2, V2 405 0 = mCd 2 (aR (aDoor (V 406) r o b)) → EndM (aDoor (V 406) r o b) a V V2 → Q (.inl (some (vi (mVal (aR (aDoor (V 406) r o b)))))) V2 D) : RY d 36 0 [vr 405, vi r, vi o, vi b, vr 0] [] V D Q := by
  unfold aDoor at h
  refine u_36_0 (m_areTwo hW (fun h2 hn V1 t1 C1 F1 => ?_) (fun h2 V1 t1 C1 => ?_) (fun h2 he V1 t1 C1 => ?_))
  · rw [sIf_y h2, sIf_n hn] at h
    have e6 : V1 406 = V 406 := C1.at_ 406 rfl
    have e5 : V1 405 6 = (a : Int) := by rw [C1.2.2.1]; exact h6
    obtain ⟨r5, er⟩ := hW.r5 h2.1
    obtain ⟨o5, eo⟩ := hW.r5 h2.2
    refine u_36_6 ⟨fun _ => m_remembers e5 ha (fun V' hR => u_36_19 ?_), fun h5 => by omega⟩
    have f6 : V' 406 = V 406 := by rw [hR.2.2.1 406 (by decide), e6]
    have hk : ∀ k, k < 331 → V' 406 k = V 406 k := fun k _ => by rw [f6]
    have ei : wr ((wr ((66 : Int) + (wr ((5 : Int) * r)))) + o) = (((66 + 5 * r.toNat + o.toNat : Nat)) : Int) := by
      rw [wr_id (x := 5 * r) (by omega) (by omega), wr_id (x := 66 + 5 * r) (by omega) (by omega), wr_id (by omega) (by omega)]
      omega
    have ej : wr ((wr ((66 : Int) + (wr ((5 : Int) * o)))) + r) = (((66 + 5 * o.toNat + r.toNat : Nat)) : Int) := by
      rw [wr_id (x := 5 * o) (by omega) (by omega), wr_id (x := 66 + 5 * o) (by omega) (by omega), wr_id (by omega) (by omega)]
      omega
    have ey : yr_152 r o V' D = if dO_ (V 406) r.toNat o.toNat = 1 then 1 else 0 := by
      have := yr152 (V := V') (D := D) (by rw [f6]; exact hW) r5 o5
      rw [er, eo, f6] at this
      exact this
    have eg : yg_152 r o V' D := by
      have := yg152 (V := V') (D := D) r5 o5
      rw [er, eo] at this
      exact this
    have fin : ∀ (z : Int), z = (if b = 0 then 0 else 1) → ∀ V2, V2 = up2 V' 406 (66 + 5 * r.toNat + o.toNat) z → ∀ V3, V3 = up2 V2 406 (66 + 5 * o.toNat + r.toNat) z → (((if dO_ (V 406) r.toNat o.toNat = 1 then (1 : Int) else 0) = b → Q (.inl (some (vi 0))) V3 D) ∧ ((if dO_ (V 406) r.toNat o.toNat = 1 then (1 : Int) else 0) ≠ b → Q (.inl (some (vi 1))) V3 D)) := by
      intro z hz V2 e2 V3 e3
      have hc := cut406 (z := z) hk (show 66 + 5 * r.toNat + o.toNat < 331 by omega)
      rw [← e2] at hc
      have hc3 := cut406 (z := z) hc.1 (show 66 + 5 * o.toNat + r.toNat < 331 by omega)
      rw [← e3] at hc3
      have hq := h V3 (by rw [e3, up2_na (by decide), e2, up2_na (by decide), hR.2.1 0 (by decide)]; exact t1) (ActM.of (S := [406]) C1 hR (by rw [e3, e2]; exact (Fr.up (by decide)).tr (Fr.up (by decide))) (by decide) (fun k hk => by rw [hc3.1 k hk, hz]; rfl) (fun k hk => by rw [hc3.2 k hk, hc.2 k hk]))
      dsimp only [aR, mVal] at hq
      refine ⟨fun h5 => ?_, fun h5 => ?_⟩
      · rw [if_pos h5] at hq; exact hq
      · rw [if_neg h5] at hq; exact hq
    rw [ei, ej, ey, nn_toNat, nn_toNat]
    refine ⟨eg, fun h5 => ⟨by omega, ?_⟩, fun h5 => ⟨by omega, ?_⟩⟩
    · rintro V2 e2
      refine ⟨by omega, ?_⟩
      rintro V3 e3
      exact fin 0 (by rw [if_pos h5]) V2 e2 V3 e3
    · rintro V2 e2
      refine ⟨by omega, ?_⟩
      rintro V3 e3
      exact fin 1 (by rw [if_neg h5]) V2 e2 V3 e3
  · rw [sIf_n h2] at h
    exact u_36_6 ⟨fun h5 => by omega, fun _ => h V1 t1 C1⟩
  · rw [sIf_y h2, sIf_y he] at h
    exact u_36_6 ⟨fun h5 => by omega, fun _ => h V1 t1 C1⟩
/-! ===== TAKE ===== -/
noncomputable def aTake (p : Rw) (t r : Int) : aAct := sIf ((0 ≤ t ∧ t < p 4) ∧ (r = -1 ∨ (0 ≤ r ∧ r < p 3))) (sIf (r ≠ -1 ∧ hdr p r ≠ -1 ∧ hdr p r ≠ t) (.inr 1) (.inl (tL_ p t.toNat, rup p (53 + 3 * t.toNat) r))) (.inr 2)
theorem st_lodge {s t : Nat} {z : Int} (hS : St V s p) (ht : t < 5) : St (up2 V (s + 8) t z) s (rup p (53 + 3 * t) z) := by
  obtain ⟨g0, g1, g2, g3, g4, g5, g6, g7, g8, g9, g10, g12, g13, g14, g15, g16, g17, g18, g19, g20, g21, g22⟩ := hS
  have u : ∀ k, k ≠ 8 → up2 V (s + 8) t z (s + k) = V (s + k) := fun k hk => up2_na (by omega)
  have u0 : up2 V (s + 8) t z s = V s := u 0 (by omega)
  unfold St rW rD rS rR dB_ dO_ tP_ tW_ tL_ at *
  rw [u0, u 1 (by omega), u 2 (by omega), u 3 (by omega), u 4 (by omega), u 5 (by omega), u 6 (by omega), u 7 (by omega), u 9 (by omega), u 10 (by omega)]
  simp only [show ∀ k : Nat, k < 16 → rup p (53 + 3 * t) z k = p k from fun k hk => rup_n (by omega), Nat.reduceLT]
  refine ⟨g0, fun r' h => ?_, fun r' h => ?_, fun r' w' h h' => ?_, fun r' h => ?_, fun r' h => ?_, g6, fun t h => ?_, fun t h => ?_, fun t' h => ?_, g10, g12, g13, g14, g15, g16, g17, g18, g19, g20, g21, fun k h => ?_⟩
  · rw [rup_n (by omega)]; exact g1 r' h
  · rw [rup_n (by omega)]; exact g2 r' h
  · rw [rup_n (by omega)]; exact g3 r' w' h h'
  · rw [rup_n (by omega)]; exact g4 r' h
  · rw [rup_n (by omega), rup_n (by omega), rup_n (by omega), rup_n (by omega), rup_n (by omega)]; exact g5 r' h
  · rw [rup_n (by omega)]; exact g7 t h
  · rw [rup_n (by omega)]; exact g8 t h
  · rw [up2_a]
    by_cases e : t' = t
    · subst e; rw [if_pos rfl, rup_a]
    · rw [if_neg e, rup_n (by omega)]; exact g9 t' h
  · rw [rup_n (by omega)]; exact g22 k h
theorem ca_take {t r : Int} (hP : PNx V D) (hS : St V 81 p) (hW : WF p) (h : ∀ V1 D1, EndC (aTake p t r) V D V1 D1 → Q (cRes (aR (aTake p t r))) V1 D1) : RY d 174 0 [vr 70, vi t, vi r, vr 0] [] V D Q := by
  have h4 : 0 ≤ p 4 ∧ p 4 ≤ 5 := hW.2.1
  unfold aTake at h
  refine u_174_0 (c_needTenant hS (fun ht1 ht2 => ?_) (fun ht => ⟨rfl, by rw [sIf_n (fun hc => ht hc.1)] at h; exact h V _ ⟨Cor.rf, CorD.exc⟩⟩))
  have act : (r = -1 ∨ (0 ≤ r ∧ r < p 3)) → ¬ (r ≠ -1 ∧ hdr p r ≠ -1 ∧ hdr p r ≠ t) → ∀ v3, RY d 256 0 [vr 70] [] V D (yback d 174 46 [vr 70, vi t, vi r, v3] [] Q) := by
    intro h1 h2 v3
    rw [sIf_y ⟨⟨ht1, ht2⟩, h1⟩, sIf_n h2] at h
    refine c_act hP (fun V' nx a hn' ha h7' h8' hR => u_174_46 ⟨by omega, by omega, ?_⟩)
    rintro V2 rfl
    have S' := hR.st hn' hS
    have e9 : V' 89 t.toNat = tL_ p t.toNat := S'.lod (by omega)
    rw [e9]
    exact h _ _ (ActC.of (S := [89]) hn' ha h7' h8' hR (Fr.up (by decide)) (by decide) (st_lodge (s := 81) S' (by omega)) CorD.rf)
  refine u_174_5 ⟨fun h5 => act (Or.inl h5) (fun hc => hc.1 h5) _, fun h5 => ?_⟩
  refine c_needRoom hS (fun hr => u_174_15 (c_holder_81 hS hW (u_174_23 ?_))) (fun hr => ⟨rfl, by rw [sIf_n (fun hc => by have := hc.2; omega)] at h; exact h V _ ⟨Cor.rf, CorD.exc⟩⟩)
  refine ⟨fun h6 => act (Or.inr hr) (fun hc => hc.2.1 h6) _, fun h6 => ⟨fun h7 => act (Or.inr hr) (fun hc => hc.2.2 h7) _, fun h7 => ?_⟩⟩
  rw [sIf_y ⟨⟨ht1, ht2⟩, Or.inr hr⟩, sIf_y ⟨h5, h6, h7⟩] at h
  exact h V _ ⟨Cor.rf, CorD.exc⟩
theorem yr142 {t : Int} (hW : WF (V 406)) : yr_142 t V D = if 0 ≤ t ∧ t < V 406 4 then 1 else 0 := by
  unfold yr_142
  have := hW.2.1
  rw [yr124, wr_id (by omega) (by omega)]
  (repeat' split) <;> omega
theorem yg142 {t : Int} : yg_142 t V D := by
  unfold yg_142
  rw [yr124]
  split <;> simp
theorem ma_take {t r : Int} {a : Nat} (h6 : V 405 6 = (a : Int)) (ha : a ≤ 12) (hW : WF (V 406)) (h : ∀ V2, V2 405 0 = mCd 2 (aR (aTake (V 406) t r)) → EndM (aTake (V 406) t r) a V V2 → Q (.inl (some (vi (mVal (aR (aTake (V 406) t r)))))) V2 D) : RY d 40 0 [vr 405, vi t, vi r] [] V D Q := by
  have h4 : 0 ≤ V 406 4 ∧ V 406 4 ≤ 5 := hW.2.1
  unfold aTake at h
  refine u_40_0 ⟨yg142, ?_⟩
  rw [yr142 hW, yr132 hW]
  have no : ¬ ((0 ≤ t ∧ t < V 406 4) ∧ (r = -1 ∨ (0 ≤ r ∧ r < V 406 3))) → ∀ V1, V1 = up2 V 405 0 1 → RY d 40 30 [vr 405, vi t, vi r] [] V1 D Q := by
    intro hn V1 hV1
    rw [sIf_n hn] at h
    have t0 : V1 405 0 = 1 := by rw [hV1]; exact v405.1
    exact u_40_30 ⟨fun h5 => by omega, fun _ => h V1 t0 (by rw [hV1]; exact v405.2.2)⟩
  have yes : ((0 ≤ t ∧ t < V 406 4) ∧ (r = -1 ∨ (0 ≤ r ∧ r < V 406 3))) → ∀ V1, V1 = up2 V 405 0 0 → RY d 40 30 [vr 405, vi t, vi r] [] V1 D Q := by
    intro hy V1 hV1
    rw [sIf_y hy] at h
    have t0 : V1 405 0 = 0 := by rw [hV1]; exact v405.1
    have e6 : V1 406 = V 406 := by rw [hV1]; exact v405.2.1
    have e5 : V1 405 6 = (a : Int) := by rw [hV1, up2_ni (by decide)]; exact h6
    have C1 : Cor V V1 := by rw [hV1]; exact v405.2.2
    clear hV1 no
    have W1 : WF (V1 406) := by rw [e6]; exact hW
    have act : ¬ (r ≠ -1 ∧ hdr (V 406) r ≠ -1 ∧ hdr (V 406) r ≠ t) → ∀ V2, V2 = up2 V1 405 0 0 → RY d 40 71 [vr 405, vi t, vi r] [] V2 D Q := by
      intro hn V2 hV2
      rw [sIf_n hn] at h
      have t2 : V2 405 0 = 0 := by rw [hV2]; exact v405.1
      have e62 : V2 406 = V 406 := by rw [hV2, ← e6]; exact v405.2.1
      have e52 : V2 405 6 = (a : Int) := by rw [hV2, up2_ni (by decide)]; exact e5
      have C2 : Cor V V2 := C1.tr (by rw [hV2]; exact v405.2.2)
      refine u_40_71 ⟨fun _ => ?_, fun h5 => by omega⟩
      have ei : wr ((wr ((51 : Int) + (wr ((3 : Int) * t)))) + 2) = (((53 + 3 * t.toNat : Nat)) : Int) := by
        rw [wr_id (x := 3 * t) (by omega) (by omega), wr_id (x := 51 + 3 * t) (by omega) (by omega), wr_id (by omega) (by omega)]
        omega
      rw [ei]
      refine m_sets (by omega) e52 ha (fun V' V3 hR e => u_40_95 ?_)
      rw [e62]
      have hk : ∀ k, k < 331 → V' 406 k = V 406 k := fun k hk => by rw [hR.2.2.1 406 (by decide), e62]
      have hc := cut406 (z := r) hk (show 53 + 3 * t.toNat < 331 by omega)
      rw [← e] at hc
      exact h V3 (by rw [e, up2_na (by decide), hR.2.1 0 (by decide)]; exact t2) (ActM.of (S := [406]) C2 hR (by rw [e]; exact Fr.up (by decide)) (by decide) hc.1 hc.2)
    refine u_40_30 ⟨fun _ => ⟨fun h5 => act (fun hc => hc.1 h5), fun h5 => ?_⟩, fun h5 => by omega⟩
    have hr : 0 ≤ r := by have := hy.2; omega
    refine m_holder hr W1 ?_
    rw [e6]
    refine u_40_50 ⟨fun h7 => act (fun hc => hc.2.1 h7), fun h7 => ?_⟩
    refine m_holder hr W1 ?_
    rw [e6]
    refine u_40_59 ⟨fun h8 => act (fun hc => hc.2.2 h8), fun h8 => ?_⟩
    rintro V2 hV2
    rw [sIf_y ⟨h5, h7, h8⟩] at h
    have t2 : V2 405 0 = 2 := by rw [hV2]; exact v405.1
    exact u_40_71 ⟨fun h5 => by omega, fun _ => h V2 t2 (C1.tr (by rw [hV2]; exact v405.2.2))⟩
  by_cases ht : 0 ≤ t ∧ t < V 406 4
  · rw [if_pos ht]
    refine ⟨fun h5 => absurd h5 (by decide), fun _ => ⟨fun h5 => yes ⟨ht, Or.inl h5⟩, fun h5 => ⟨yg132, ?_⟩⟩⟩
    by_cases hr : 0 ≤ r ∧ r < V 406 3
    · rw [if_pos hr]
      exact ⟨fun _ => yes ⟨ht, Or.inr hr⟩, fun h6 => absurd h6 (by decide)⟩
    · rw [if_neg hr]
      exact ⟨fun h6 => absurd rfl h6, fun _ => no (fun hc => by have := hc.2; omega)⟩
  · rw [if_neg ht]
    exact ⟨fun _ => no (fun hc => ht hc.1), fun h6 => absurd rfl h6⟩
/-! ===== STEP ===== -/
def sdX (k : Int) : Int := if k = 0 then -1 else if k = 1 then 1 else 0
def sdY (k : Int) : Int := if k = 2 then -1 else if k = 3 then 1 else 0
theorem sd_b (k : Int) : (-1 ≤ sdX k ∧ sdX k ≤ 1) ∧ (-1 ≤ sdY k ∧ sdY k ≤ 1) := by unfold sdX sdY; constructor <;> (repeat' split) <;> omega
noncomputable def aStep (p : Rw) (k : Int) : aAct := sIf (0 ≤ k ∧ k ≤ 3) (sIf (p 5 = -1 ∨ ¬ plA p (p 5) (p 6 + sdX k) (p 7 + sdY k)) (.inr 1) (.inl (16 * (p 6 + sdX k) + (p 7 + sdY k), rup (rup (rup p 5 (p 5)) 6 (p 6 + sdX k)) 7 (p 7 + sdY k)))) (.inr 2)
theorem WF.seat (hW : WF p) (h : p 5 ≠ -1) : plA p (p 5) (p 6) (p 7) := by
  have hp := hW.2.2.2.2.2.2.2.2.2.2.2.2.2.2.2
  rcases hp with hp | ⟨a, b, c, e, f, g⟩
  · exact absurd hp h
  · exact ⟨⟨a, b⟩, ⟨c, e⟩, f, g⟩
theorem c_beside {r : Nat} {x y k : Int} (hS : St V 81 p) (hW : WF p) (hr : (r : Int) < p 3) (hx : 1 ≤ x ∧ x < rW p r) (hy : 1 ≤ y ∧ y < rD p r)
    (h : Q (.inl (some (vi (@ite _ ((1 ≤ x + sdX k ∧ x + sdX k < rW p r) ∧ (1 ≤ y + sdY k ∧ y + sdY k < rD p r)) (Classical.propDecidable _) (16 * (x + sdX k) + (y + sdY k)) (-1))))) V D) : RY d 260 0 [vr 81, vi (r : Int), vi (16 * x + y), vi k, vr 0, vr 0] [] V D Q := by
  obtain ⟨r5, hw, hd⟩ := hW.room hr
  have e1 : V 82 r = rW p r := hS.2.1 r r5
  have e2 : V 83 r = rD p r := hS.2.2.1 r r5
  have ex : (16 * x + y).tdiv 16 = x := by rw [tdiv_nn (by omega)]; omega
  have ey : (16 * x + y).tmod 16 = y := by rw [tmod_nn (by omega)]; omega
  have hb := sd_b k
  have last : RY d 260 51 [vr 81, vi (r : Int), vi (16 * x + y), vi k, vi (x + sdX k), vi (y + sdY k)] [] V D Q := by
    refine u_260_51_81 ⟨by unfold yg_328_81; omega, ?_⟩
    have hi : yr_328_81 (r : Int) (x + sdX k) (y + sdY k) V D = @ite _ ((1 ≤ x + sdX k ∧ x + sdX k < rW p r) ∧ (1 ≤ y + sdY k ∧ y + sdY k < rD p r)) (Classical.propDecidable _) 1 0 := by
      unfold yr_328_81
      rw [nn_toNat, e1, e2]
      by_cases hc : (1 ≤ x + sdX k ∧ x + sdX k < rW p r) ∧ (1 ≤ y + sdY k ∧ y + sdY k < rD p r)
      · rw [if_pos hc, if_neg (by omega), if_pos (by omega), if_neg (by omega), if_pos (by omega)]
      · rw [if_neg hc]
        (repeat' split) <;> omega
    rw [hi]
    by_cases hc : (1 ≤ x + sdX k ∧ x + sdX k < rW p r) ∧ (1 ≤ y + sdY k ∧ y + sdY k < rD p r)
    · rw [if_pos hc] at h ⊢
      rw [yr265 (by omega) (by omega)]
      exact ⟨fun h5 => absurd h5 (by decide), fun _ => h⟩
    · rw [if_neg hc] at h ⊢
      exact ⟨fun _ => h, fun h5 => absurd rfl h5⟩
  have mid : RY d 260 25 [vr 81, vi (r : Int), vi (16 * x + y), vi k, vi (x + sdX k), vr 0] [] V D Q := by
    refine u_260_25_81 ?_
    rw [ey]
    refine ⟨fun h3 => ⟨fun h2 => ?_, fun h2 => ?_⟩, fun h3 => ?_⟩
    · have : sdY k = 0 := by unfold sdY; rw [if_neg h2, if_neg h3]
      rw [wr_id (by omega) (by omega), show y + 0 = y + sdY k by omega]; exact last
    · have : sdY k = -1 := by unfold sdY; rw [if_pos h2]
      rw [wr_id (by omega) (by omega), show y + (-1) = y + sdY k by omega]; exact last
    · have : sdY k = 1 := by unfold sdY; rw [if_neg (by omega), if_pos h3]
      rw [wr_id (by omega) (by omega), show y + 1 = y + sdY k by omega]; exact last
  refine u_260_0_81 ?_
  rw [ex, wr_id (x := x) (by omega) (by omega)]
  refine ⟨fun h1 => ⟨fun h0 => ?_, fun h0 => ?_⟩, fun h1 => ?_⟩
  · have : sdX k = 0 := by unfold sdX; rw [if_neg h0, if_neg h1]
    rw [wr_id (by omega) (by omega), show x + 0 = x + sdX k by omega]; exact mid
  · have : sdX k = -1 := by unfold sdX; rw [if_pos h0]
    rw [wr_id (by omega) (by omega), show x + (-1) = x + sdX k by omega]; exact mid
  · have : sdX k = 1 := by unfold sdX; rw [if_neg (by omega), if_pos h1]
    rw [wr_id (by omega) (by omega), show x + 1 = x + sdX k by omega]; exact mid
theorem up2_same {V : xF} {a i : Nat} {z : Int} (h : V a i = z) : up2 V a i z = V := by
  funext b j
  unfold up2
  split
  · rename_i hc; rw [hc.1, hc.2, h]
  · rfl
theorem ca_step {k : Int} (hP : PNx V D) (hS : St V 81 p) (hW : WF p) (h : ∀ V1 D1, EndC (aStep p k) V D V1 D1 → Q (cRes (aR (aStep p k))) V1 D1) : RY d 161 0 [vr 70, vi k, vr 0] [] V D Q := by
  have e12 : V 81 12 = p 5 := hS.2.2.2.2.2.2.2.2.2.2.2.1
  have e13 : V 81 13 = (if p 5 = -1 then -1 else 16 * p 6 + p 7) := hS.2.2.2.2.2.2.2.2.2.2.2.2.1
  unfold aStep at h
  have hb := sd_b k
  refine u_161_0 ⟨fun h5 => ?_, fun h5 => ⟨fun h6 => ⟨fun h7 => ?_, fun h7 => ?_⟩, fun h6 => ?_⟩⟩
  · rw [sIf_n (by omega)] at h; exact h V _ ⟨Cor.rf, CorD.exc⟩
  · rw [sIf_y ⟨h5, h6⟩] at h
    rw [e12] at h7 ⊢
    have hs := hW.seat h7
    rw [e13, if_neg h7]
    obtain ⟨r5, er⟩ := hW.r5 hs.1
    rw [← er]
    refine c_beside hS hW (by have := hs.1; omega) hs.2.1 hs.2.2 (u_161_58 ?_)
    have eq : plA p (p 5) (p 6 + sdX k) (p 7 + sdY k) ↔ ((1 ≤ p 6 + sdX k ∧ p 6 + sdX k < rW p (p 5).toNat) ∧ (1 ≤ p 7 + sdY k ∧ p 7 + sdY k < rD p (p 5).toNat)) := ⟨fun hh => hh.2, fun hh => ⟨hs.1, hh⟩⟩
    by_cases hc : (1 ≤ p 6 + sdX k ∧ p 6 + sdX k < rW p (p 5).toNat) ∧ (1 ≤ p 7 + sdY k ∧ p 7 + sdY k < rD p (p 5).toNat)
    · rw [if_pos hc]
      rw [sIf_n (fun hh => by rcases hh with hh | hh; exact h7 hh; exact hh (eq.mpr hc))] at h
      refine ⟨fun _ => c_act hP (fun V' nx a hn ha h7' h8' hR => u_161_76 ?_), fun h9 => by omega⟩
      rintro V2 rfl
      have S' := hR.st hn hS
      have f12 : V' 81 12 = p 5 := S'.2.2.2.2.2.2.2.2.2.2.2.1
      have hst := st_seat (s := 81) (r := p 5) (x := p 6 + sdX k) (y := p 7 + sdY k) S' h7
      rw [up2_same f12] at hst
      exact h _ _ (ActC.of (S := [81]) hn ha h7' h8' hR (Fr.up (by decide)) (by decide) hst CorD.rf)
    · rw [if_neg hc]
      rw [sIf_y (Or.inr (fun hh => hc (eq.mp hh)))] at h
      exact ⟨fun h9 => absurd rfl h9, fun _ => h V _ ⟨Cor.rf, CorD.exc⟩⟩
  · rw [sIf_y ⟨h5, h6⟩, sIf_y (Or.inl (by rw [← e12]; exact h7))] at h
    exact h V _ ⟨Cor.rf, CorD.exc⟩
  · rw [sIf_n (by omega)] at h; exact h V _ ⟨Cor.rf, CorD.exc⟩
theorem yr164 {r : Nat} {x y : Int} (hW : WF (V 406)) (hr : (r : Int) < V 406 3) : yg_164 (r : Int) x y V D ∧ yr_164 (r : Int) x y V D = @ite _ ((1 ≤ x ∧ x < rW (V 406) r) ∧ (1 ≤ y ∧ y < rD (V 406) r)) (Classical.propDecidable _) 1 0 := by
  obtain ⟨hr5, hw, hd⟩ := hW.room hr
  refine ⟨⟨yg133 hr5 (by omega), fun _ => yg133 hr5 (by omega)⟩, ?_⟩
  unfold yr_164
  rw [yr133_0 hr5, yr133_1 hr5, yr124, yr124, wr_id (x := rW (V 406) r - 1) (by omega) (by omega), wr_id (x := rD (V 406) r - 1) (by omega) (by omega)]
  by_cases hc : (1 ≤ x ∧ x < rW (V 406) r) ∧ (1 ≤ y ∧ y < rD (V 406) r)
  · rw [if_pos hc, if_neg (by rw [if_pos (by omega)]; decide), if_neg (by rw [if_pos (by omega)]; decide)]
  · rw [if_neg hc]
    by_cases h1 : 1 ≤ x ∧ x < rW (V 406) r
    · rw [if_neg (by rw [if_pos (by omega)]; decide), if_pos (by rw [if_neg (by omega)])]
    · rw [if_pos (by rw [if_neg (by omega)])]
theorem yrSd (k : Int) : yr_162 k V D = sdX k ∧ yr_163 k V D = sdY k := ⟨rfl, rfl⟩
theorem ma_step {k : Int} {a : Nat} (h6 : V 405 6 = (a : Int)) (ha : a ≤ 12) (hW : WF (V 406)) (h : ∀ V2, V2 405 0 = mCd 2 (aR (aStep (V 406) k)) → EndM (aStep (V 406) k) a V V2 → Q (.inl (some (vi (mVal (aR (aStep (V 406) k)))))) V2 D) : RY d 28 0 [vr 405, vi k, vr 0] [] V D Q := by
  unfold aStep at h
  have hb := sd_b k
  refine u_28_0 ?_
  rw [yr124]
  by_cases hk : 0 ≤ k ∧ k ≤ 3
  · rw [if_pos hk]
    rw [sIf_y hk] at h
    refine ⟨fun _ => ?_, fun h5 => absurd h5 (by decide)⟩
    rintro V1 hV1
    have t0 : V1 405 0 = 0 := by rw [hV1]; exact v405.1
    have e6 : V1 406 = V 406 := by rw [hV1]; exact v405.2.1
    have e5 : V1 405 6 = (a : Int) := by rw [hV1, up2_ni (by decide)]; exact h6
    have C1 : Cor V V1 := by rw [hV1]; exact v405.2.2
    clear hV1
    have bad : (V 406 5 = -1 ∨ ¬ plA (V 406) (V 406 5) (V 406 6 + sdX k) (V 406 7 + sdY k)) → ∀ V2, V2 = up2 V1 405 0 2 → RY d 28 83 [vr 405, vi k, vr 0] [] V2 D Q := by
      intro hc V2 hV2
      rw [sIf_y hc] at h
      have t2 : V2 405 0 = 2 := by rw [hV2]; exact v405.1
      exact u_28_83 ⟨fun h5 => by omega, fun _ => h V2 t2 (C1.tr (by rw [hV2]; exact v405.2.2))⟩
    refine u_28_18 ⟨fun _ => ?_, fun h5 => by omega⟩
    rw [e6]
    refine ⟨fun h5 => bad (Or.inl h5), fun h5 => ?_⟩
    have hs := hW.seat h5
    obtain ⟨r5, er⟩ := hW.r5 hs.1
    obtain ⟨-, hw, hd⟩ := hW.room (r := (V 406 5).toNat) (by have := hs.1; omega)
    have hx := hs.2.1
    have hy := hs.2.2
    rw [(yrSd k).1, (yrSd k).2, wr_id (x := V 406 6 + sdX k) (by omega) (by omega), wr_id (x := V 406 7 + sdY k) (by omega) (by omega)]
    have y1 := yr164 (V := V1) (D := D) (r := (V 406 5).toNat) (x := V 406 6 + sdX k) (y := V 406 7 + sdY k) (by rw [e6]; exact hW) (by rw [e6]; have := hs.1; omega)
    rw [er, e6] at y1
    refine ⟨y1.1, ?_⟩
    rw [y1.2]
    by_cases hc : (1 ≤ V 406 6 + sdX k ∧ V 406 6 + sdX k < rW (V 406) (V 406 5).toNat) ∧ (1 ≤ V 406 7 + sdY k ∧ V 406 7 + sdY k < rD (V 406) (V 406 5).toNat)
    · rw [if_pos hc]
      refine ⟨fun _ => ?_, fun h7 => absurd h7 (by decide)⟩
      rintro V2 hV2
      rw [sIf_n (fun hh => by rcases hh with hh | hh; exact h5 hh; exact hh ⟨hs.1, hc⟩)] at h
      have t2 : V2 405 0 = 0 := by rw [hV2]; exact v405.1
      have e62 : V2 406 = V 406 := by rw [hV2, ← e6]; exact v405.2.1
      have e52 : V2 405 6 = (a : Int) := by rw [hV2, up2_ni (by decide)]; exact e5
      have C2 : Cor V V2 := C1.tr (by rw [hV2]; exact v405.2.2)
      clear hV2
      refine u_28_83 ⟨fun _ => ?_, fun h7 => by omega⟩
      rw [e62, (yrSd k).1, wr_id (x := V 406 6 + sdX k) (by omega) (by omega)]
      refine m_sets (i := 6) (by omega) e52 ha (fun V' V3 hR e => u_28_110 ?_)
      have hk' : ∀ k, k < 331 → V' 406 k = V 406 k := fun k hk => by rw [hR.2.2.1 406 (by decide), e62]
      have hc1 := cut406 (z := V 406 6 + sdX k) hk' (show 6 < 331 by omega)
      rw [← e] at hc1
      have e7 : V3 406 7 = V 406 7 := by rw [hc1.1 7 (by omega), rup_n (by omega)]
      have e66 : V3 406 6 = V 406 6 + sdX k := by rw [hc1.1 6 (by omega), rup_a]
      rintro V4 e4
      rw [(yrSd k).2, e7, wr_id (x := V 406 7 + sdY k) (by omega) (by omega)] at e4
      have hc2 := cut406 (i := 7) (z := V 406 7 + sdY k) hc1.1 (by omega)
      rw [← e4] at hc2
      have f6 : V4 406 6 = V 406 6 + sdX k := by rw [hc2.1 6 (by omega), rup_n (by omega), rup_a]
      have f7 : V4 406 7 = V 406 7 + sdY k := by rw [hc2.1 7 (by omega), rup_a]
      rw [f6, f7, wr_id (x := 16 * (V 406 6 + sdX k)) (by omega) (by omega), wr_id (by omega) (by omega)]
      refine h V4 ?_ (ActM.of (S := [406]) C2 hR ?_ (by decide) ?_ ?_)
      · rw [e4, up2_na (by decide), e, up2_na (by decide), hR.2.1 0 (by decide)]; exact t2
      · rw [e4, e]; exact (Fr.up (by decide)).tr (Fr.up (by decide))
      · intro j hj
        rw [hc2.1 j hj]
        show _ = rup (rup (rup (V 406) 5 (V 406 5)) 6 (V 406 6 + sdX k)) 7 (V 406 7 + sdY k) j
        unfold rup
        by_cases h8 : j = 7
        · rw [if_pos h8, if_pos h8]
        · rw [if_neg h8, if_neg h8]
          by_cases h9 : j = 6
          · rw [if_pos h9, if_pos h9]
          · rw [if_neg h9, if_neg h9]
            by_cases h10 : j = 5
            · rw [if_pos h10, h10]
            · rw [if_neg h10]
      · intro j hj; rw [hc2.2 j hj, hc1.2 j hj]
    · rw [if_neg hc]
      exact ⟨fun h7 => absurd rfl h7, fun _ => bad (Or.inr (fun hh => hc hh.2))⟩
  · rw [if_neg hk]
    rw [sIf_n hk] at h
    refine ⟨fun h5 => absurd rfl h5, fun _ => ?_⟩
    rintro V1 hV1
    have t0 : V1 405 0 = 1 := by rw [hV1]; exact v405.1
    exact u_28_18 ⟨fun h5 => by omega, fun _ => h V1 t0 (by rw [hV1]; exact v405.2.2)⟩
end ACTS2
