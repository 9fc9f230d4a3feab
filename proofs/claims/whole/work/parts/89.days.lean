/-! ===== DAYS ===== -/
def nxs (s : Int) : Int := wr (wr (1103515245 * s) + 12345)
def dvs (s : Int) : Int := xand (xushr s 16) 32767
theorem xand_32767 (x : Int) : 0 ≤ xand x 32767 ∧ xand x 32767 ≤ 32767 := by
  unfold xand
  have e : (Int32.ofInt x &&& Int32.ofInt 32767).toInt = ((Int32.ofInt x).toBitVec &&& 32767#32).toInt := rfl
  rw [e]
  have h : ((Int32.ofInt x).toBitVec &&& 32767#32).toNat ≤ 32767 := by
    rw [BitVec.toNat_and]
    exact Nat.and_le_right
  rw [BitVec.toInt_eq_toNat_cond]
  split <;> omega
theorem dv_b (s : Int) : 0 ≤ dvs s ∧ dvs s ≤ 32767 := xand_32767 _
theorem dv_m (s m : Int) (hm : 1 ≤ m) : 0 ≤ (dvs s).tmod m ∧ (dvs s).tmod m < m := by
  have := dv_b s
  rw [tmod_nn this.1]
  exact ⟨Int.emod_nonneg _ (by omega), Int.emod_lt_of_pos _ (by omega)⟩
/-- a wall is hung by a draw, or none -/
def drB (p : Rw) : Bool := decide ((dvs (nxs (p 15))).tmod 100 < p 11)
def drS (p : Rw) (r : Nat) : Rw := if drB p = true then rup (rup p 15 (nxs (nxs (nxs (p 15))))) (18 + 7 * r + ((dvs (nxs (nxs (p 15)))).tmod 4).toNat) ((dvs (nxs (nxs (nxs (p 15))))).tmod 5) else rup p 15 (nxs (p 15))
def drsF (p : Rw) : Nat → Rw
  | 0 => p
  | n + 1 => drS (drsF p n) n
def anyF (p : Rw) : Nat → Bool
  | 0 => false
  | n + 1 => drB (drsF p n) || anyF p n
def lodsF (p : Rw) (ls : List Ln) : Nat → Rw
  | 0 => p
  | n + 1 => lodR (lodsF p ls n) ls n
def dyF (x : Int) : Int := if x ≤ 9998 then x + 1 else 9999
def dayR (p : Rw) (ls : List Ln) (b : Int) : Rw := (fun q => rup q 12 (dyF (q 12))) (lodsF (if b = 0 then p else drsF p (p 3).toNat) ls (p 4).toNat)
def daysR (p : Rw) (ls : List Ln) (b : Int) : Nat → Rw
  | 0 => p
  | n + 1 => dayR (daysR p ls b n) ls b
theorem rup_rup {p : Rw} {i : Nat} {x y : Int} : rup (rup p i x) i y = rup p i y := by
  funext k
  unfold rup
  split <;> rfl
/-- WF looks neither at the seed nor, but for its range, at the day -/
theorem WF.near {p q : Rw} (hW : WF p) (h : ∀ k, k ≠ 12 → k ≠ 15 → q k = p k) (h12 : 0 ≤ q 12 ∧ q 12 ≤ 9999) : WF q := by
  obtain ⟨g1, g2, g3, g4, g5, g6, g7, g8, g9, g10, g11, g12, g13, g14, g15, g16⟩ := hW
  have e3 := h 3 (by omega) (by omega)
  have e4 := h 4 (by omega) (by omega)
  unfold WF
  rw [e3, e4, h 0 (by omega) (by omega), h 1 (by omega) (by omega), h 5 (by omega) (by omega), h 6 (by omega) (by omega), h 7 (by omega) (by omega), h 8 (by omega) (by omega), h 9 (by omega) (by omega), h 10 (by omega) (by omega), h 11 (by omega) (by omega), h 13 (by omega) (by omega), h 14 (by omega) (by omega)]
  refine ⟨g1, g2, g3, g4, g5, g6, h12, g8, g9, g10, g11, fun r hr => ?_, fun t ht => ?_, fun t u ht hu => ?_, fun r o hr ho => ?_, ?_⟩
  · have := g12 r hr
    unfold rW rD rS rR at *
    rw [h _ (by omega) (by omega), h _ (by omega) (by omega), h _ (by omega) (by omega)]
    exact ⟨this.1, this.2.1, fun w hw => by rw [h _ (by omega) (by omega)]; exact this.2.2.1 w hw, this.2.2.2⟩
  · have := g13 t ht
    unfold tP_ tW_ tL_ at *
    rw [h _ (by omega) (by omega), h _ (by omega) (by omega), h _ (by omega) (by omega)]
    exact this
  · have := g14 t u ht hu
    unfold tL_ at *
    rw [h _ (by omega) (by omega), h _ (by omega) (by omega)]
    exact this
  · have := g15 r o hr ho
    unfold dO_ at *
    rw [h _ (by omega) (by omega), h _ (by omega) (by omega)]
    exact this
  · rcases g16 with g | g
    · exact Or.inl g
    · right
      unfold rW rD at *
      rw [h _ (by omega) (by omega), h _ (by omega) (by omega)]
      exact g
theorem WF.seed {p : Rw} (hW : WF p) {z : Int} : WF (rup p 15 z) := hW.near (fun k _ h => rup_n h) (by rw [rup_n (by decide)]; exact hW.2.2.2.2.2.2.1)
theorem WF.day {p : Rw} (hW : WF p) {z : Int} (hz : 0 ≤ z ∧ z ≤ 9999) : WF (rup p 12 z) := hW.near (fun k h _ => rup_n h) (by rw [rup_a]; exact hz)
theorem drS_WF {p : Rw} (hW : WF p) {r : Nat} (hr : r < 5) : WF (drS p r) := by
  unfold drS
  split
  · have h1 := dv_m (nxs (nxs (p 15))) 4 (by omega)
    have h2 := dv_m (nxs (nxs (nxs (p 15)))) 5 (by omega)
    exact hW.seed.sort hr (by omega) (by omega)
  · exact hW.seed
theorem drsF_WF {p : Rw} (hW : WF p) : ∀ n, n ≤ 5 → WF (drsF p n)
  | 0, _ => hW
  | n + 1, h => drS_WF (drsF_WF hW n (by omega)) (by omega)
theorem drS_n {p : Rw} {r k : Nat} (h : k ≠ 15) (h2 : k < 18 + 7 * r ∨ 22 + 7 * r ≤ k) : drS p r k = p k := by
  unfold drS
  split
  · have h1 := dv_m (nxs (nxs (p 15))) 4 (by omega)
    rw [rup_n (by omega), rup_n h]
  · rw [rup_n h]
theorem drsF_n {p : Rw} {k : Nat} (h : k ≠ 15) : ∀ (n : Nat), (k < 18 ∨ 22 + 7 * n ≤ k + 7) → drsF p n k = p k
  | 0, _ => rfl
  | n + 1, h2 => by
    show drS (drsF p n) n k = p k
    rw [drS_n h (by omega)]
    exact drsF_n h n (by omega)
theorem drsF_no {p : Rw} : ∀ (n : Nat), anyF p n = false → ∀ k, k ≠ 15 → drsF p n k = p k
  | 0, _, k, _ => rfl
  | n + 1, h, k, hk => by
    unfold anyF at h
    rw [Bool.or_eq_false_iff] at h
    show drS (drsF p n) n k = p k
    unfold drS
    rw [if_neg (by rw [h.1]; decide), rup_n hk]
    exact drsF_no n h.2 k hk
theorem lodsF_WF {p : Rw} {ls : List Ln} (hW : WF p) : ∀ n : Nat, (n : Int) ≤ p 4 → WF (lodsF p ls n) ∧ lodsF p ls n 4 = p 4
  | 0, _ => ⟨hW, rfl⟩
  | n + 1, h => by
    obtain ⟨i1, i2⟩ := lodsF_WF (ls := ls) hW n (by omega)
    exact ⟨lod_WF i1 (by omega), (rup_n (by omega)).trans i2⟩
theorem lodsF_n {p : Rw} {ls : List Ln} {k : Nat} (h : k < 53 ∨ 66 ≤ k) : ∀ n : Nat, n ≤ 5 → lodsF p ls n k = p k
  | 0, _ => rfl
  | n + 1, hn => (rup_n (by omega)).trans (lodsF_n h n (by omega))
theorem dyF_b {x : Int} (h : 0 ≤ x) : 0 ≤ dyF x ∧ dyF x ≤ 9999 := by unfold dyF; split <;> omega
theorem day_WF {p : Rw} {ls : List Ln} {b : Int} (hW : WF p) : WF (dayR p ls b) := by
  unfold dayR
  have h3 := hW.1
  have h4 := hW.2.1
  have hq : WF (if b = 0 then p else drsF p (p 3).toNat) ∧ (if b = 0 then p else drsF p (p 3).toNat) 4 = p 4 := by
    split
    · exact ⟨hW, rfl⟩
    · exact ⟨drsF_WF hW _ (by omega), drsF_n (by omega) _ (by omega)⟩
  have hw := (lodsF_WF (ls := ls) hq.1 (p 4).toNat (by rw [hq.2]; omega)).1
  exact hw.day (dyF_b hw.2.2.2.2.2.2.1.1)
theorem days_WF {p : Rw} {ls : List Ln} {b : Int} (hW : WF p) : ∀ n, WF (daysR p ls b n)
  | 0 => hW
  | n + 1 => day_WF (days_WF hW n)
theorem TXT.day {p : Rw} {ls : List Ln} {b : Int} (hW : WF p) (hT : TXT p ls) : TXT (dayR p ls b) ls := by
  have h3 := hW.1
  have h4 := hW.2.1
  have hk : ∀ k, (k = 1 ∨ k = 2 ∨ 331 ≤ k) → dayR p ls b k = p k := by
    intro k hk
    unfold dayR
    show rup _ 12 _ k = p k
    rw [rup_n (by omega), lodsF_n (by omega) _ (by omega)]
    split
    · rfl
    · exact drsF_n (by omega) _ (by omega)
  exact hT.cong (hk 1 (by omega)) (hk 2 (by omega)) (fun k h => hk k (by omega))
section DAYS
variable {d : Nat} {V : xF} {D : yD} {Q : xRes → xF → yD → Prop} {p : Rw} {ls : List Ln}
theorem st_seed {s : Nat} {z : Int} (hS : St V s p) : St (up2 V s 19 z) s (rup p 15 z) := by
  obtain ⟨g0, g1, g2, g3, g4, g5, g6, g7, g8, g9, g10, g12, g13, g14, g15, g16, g17, g18, g19, g20, g21, g22⟩ := hS
  have u : ∀ k, k ≠ 0 → up2 V s 19 z (s + k) = V (s + k) := fun k hk => up2_na (by omega)
  have u0 : ∀ k, k ≠ 19 → up2 V s 19 z s k = V s k := fun k h1 => by rw [up2_ni h1]
  have n : ∀ k, k ≠ 15 → rup p 15 z k = p k := fun k hk => rup_n hk
  unfold St
  rw [u 1 (by omega), u 2 (by omega), u 3 (by omega), u 4 (by omega), u 5 (by omega), u 6 (by omega), u 7 (by omega), u 8 (by omega), u 9 (by omega), u 10 (by omega), u0 0 (by omega), u0 6 (by omega), u0 10 (by omega), u0 12 (by omega), u0 13 (by omega), u0 14 (by omega), u0 15 (by omega), u0 16 (by omega), u0 17 (by omega), u0 18 (by omega), up2_at]
  unfold rW rD rS rR dB_ dO_ tP_ tW_ tL_ at *
  simp only [n 3 (by omega), n 4 (by omega), n 0 (by omega), n 5 (by omega), n 6 (by omega), n 7 (by omega), n 8 (by omega), n 9 (by omega), n 10 (by omega), n 11 (by omega), n 12 (by omega), n 13 (by omega), n 14 (by omega), rup_a]
  exact ⟨g0, fun r hr => by rw [n _ (by omega)]; exact g1 r hr, fun r hr => by rw [n _ (by omega)]; exact g2 r hr, fun r w hr hw => by rw [n _ (by omega)]; exact g3 r w hr hw, fun r hr => by rw [n _ (by omega)]; exact g4 r hr, fun r hr => by rw [n _ (by omega), n _ (by omega), n _ (by omega), n _ (by omega), n _ (by omega)]; exact g5 r hr, g6, fun t ht => by rw [n _ (by omega)]; exact g7 t ht, fun t ht => by rw [n _ (by omega)]; exact g8 t ht, fun t ht => by rw [n _ (by omega)]; exact g9 t ht, g10, g12, g13, g14, g15, g16, g17, g18, trivial, g20, g21, fun k hk => by rw [n _ (by omega)]; exact g22 k hk⟩
theorem st_day {s : Nat} {z : Int} (hS : St V s p) : St (up2 V s 18 z) s (rup p 12 z) := by
  obtain ⟨g0, g1, g2, g3, g4, g5, g6, g7, g8, g9, g10, g12, g13, g14, g15, g16, g17, g18, g19, g20, g21, g22⟩ := hS
  have u : ∀ k, k ≠ 0 → up2 V s 18 z (s + k) = V (s + k) := fun k hk => up2_na (by omega)
  have u0 : ∀ k, k ≠ 18 → up2 V s 18 z s k = V s k := fun k h1 => by rw [up2_ni h1]
  have n : ∀ k, k ≠ 12 → rup p 12 z k = p k := fun k hk => rup_n hk
  unfold St
  rw [u 1 (by omega), u 2 (by omega), u 3 (by omega), u 4 (by omega), u 5 (by omega), u 6 (by omega), u 7 (by omega), u 8 (by omega), u 9 (by omega), u 10 (by omega), u0 0 (by omega), u0 6 (by omega), u0 10 (by omega), u0 12 (by omega), u0 13 (by omega), u0 14 (by omega), u0 15 (by omega), u0 16 (by omega), u0 17 (by omega), u0 19 (by omega), up2_at]
  unfold rW rD rS rR dB_ dO_ tP_ tW_ tL_ at *
  simp only [n 3 (by omega), n 4 (by omega), n 0 (by omega), n 5 (by omega), n 6 (by omega), n 7 (by omega), n 8 (by omega), n 9 (by omega), n 10 (by omega), n 11 (by omega), n 15 (by omega), n 13 (by omega), n 14 (by omega), rup_a]
  exact ⟨g0, fun r hr => by rw [n _ (by omega)]; exact g1 r hr, fun r hr => by rw [n _ (by omega)]; exact g2 r hr, fun r w hr hw => by rw [n _ (by omega)]; exact g3 r w hr hw, fun r hr => by rw [n _ (by omega)]; exact g4 r hr, fun r hr => by rw [n _ (by omega), n _ (by omega), n _ (by omega), n _ (by omega), n _ (by omega)]; exact g5 r hr, g6, fun t ht => by rw [n _ (by omega)]; exact g7 t ht, fun t ht => by rw [n _ (by omega)]; exact g8 t ht, fun t ht => by rw [n _ (by omega)]; exact g9 t ht, g10, g12, g13, g14, g15, g16, g17, trivial, g19, g20, g21, fun k hk => by rw [n _ (by omega)]; exact g22 k hk⟩
theorem c_draw_81 (hS : St V 81 p) (hW : WF p) (h : ∀ V', Fr [81, 84] V V' → St V' 81 (drsF p (p 3).toNat) → Q (.inl (some (vi (if anyF p (p 3).toNat = true then 1 else 0)))) V' D) : RY d 324 0 [vr 81, vr 0, vr 0, vr 0] [] V D Q := by
  have h3 := hW.1
  refine u_324_0_81 ?_
  have go : ∀ (n k : Nat) (V1 : xF) (v3 : xV), (n : Int) + k = p 3 → Fr [81, 84] V V1 → St V1 81 (drsF p k) → RY d 324 4 [vr 81, vi (if anyF p k = true then 1 else 0), vi (k : Int), v3] [] V1 D Q := by
    intro n
    induction n with
    | zero =>
      intro k V1 v3 hk hF hS1
      have e3 : drsF p k 3 = p 3 := drsF_n (by omega) _ (by omega)
      refine u_324_4_81 ⟨fun _ => ⟨by split <;> simp, ?_⟩, fun hlt => ?_⟩
      · rw [show k = (p 3).toNat by omega] at hS1 ⊢
        exact h V1 hF hS1
      · rw [hS1.rooms, e3] at hlt
        omega
    | succ n ih =>
      intro k V1 v3 hk hF hS1
      have hk5 : k < 5 := by omega
      have e3 : drsF p k 3 = p 3 := drsF_n (by omega) _ (by omega)
      have e1 : wr ((k : Int) + 1) = ((k + 1 : Nat) : Int) := by rw [wr_id (by omega) (by omega)]; omega
      refine u_324_4_81 ⟨fun hle => ?_, fun _ => ?_⟩
      · rw [hS1.rooms, e3] at hle
        omega
      · rintro V2 hV2
        have s19 : V1 81 19 = drsF p k 15 := hS1.2.2.2.2.2.2.2.2.2.2.2.2.2.2.2.2.2.2.1
        rw [s19, show wr (wr (1103515245 * drsF p k 15) + 12345) = nxs (drsF p k 15) from rfl] at hV2
        have hS2 : St V2 81 (rup (drsF p k) 15 (nxs (drsF p k 15))) := by rw [hV2]; exact st_seed hS1
        have t19 : V2 81 19 = nxs (drsF p k 15) := by rw [hV2, up2_at]
        have t17 : V2 81 17 = drsF p k 11 := by rw [hV2, up2_ni (by decide)]; exact hS1.2.2.2.2.2.2.2.2.2.2.2.2.2.2.2.2.1
        have hF2 : Fr [81, 84] V V2 := by rw [hV2]; exact hF.tr (Fr.up (by decide))
        rw [t19, t17, show xand (xushr (nxs (drsF p k 15)) 16) 32767 = dvs (nxs (drsF p k 15)) from rfl]
        refine ⟨fun hno => ?_, fun hyes => ?_⟩
        · have hb : drB (drsF p k) = false := decide_eq_false (Int.not_lt.mpr hno)
          have := ih (k + 1) V2 v3 (by clear e1; omega) hF2 (by show St V2 81 (drS (drsF p k) k); unfold drS; rw [if_neg (by rw [hb]; decide)]; exact hS2)
          rw [show anyF p (k + 1) = (drB (drsF p k) || anyF p k) from rfl, hb, Bool.false_or] at this
          rw [e1]
          exact this
        · have hb : drB (drsF p k) = true := decide_eq_true hyes
          rintro V3 hV3 V4 hV4
          rw [show wr (wr (1103515245 * nxs (drsF p k 15)) + 12345) = nxs (nxs (drsF p k 15)) from rfl] at hV3
          have hS3 : St V3 81 (rup (drsF p k) 15 (nxs (nxs (drsF p k 15)))) := by rw [hV3]; have := st_seed (z := nxs (nxs (drsF p k 15))) hS2; rw [rup_rup] at this; exact this
          have u19 : V3 81 19 = nxs (nxs (drsF p k 15)) := by rw [hV3, up2_at]
          rw [u19, show wr (wr (1103515245 * nxs (nxs (drsF p k 15))) + 12345) = nxs (nxs (nxs (drsF p k 15))) from rfl] at hV4
          have hS4 : St V4 81 (rup (drsF p k) 15 (nxs (nxs (nxs (drsF p k 15))))) := by rw [hV4]; have := st_seed (z := nxs (nxs (nxs (drsF p k 15)))) hS3; rw [rup_rup] at this; exact this
          have w19 : V4 81 19 = nxs (nxs (nxs (drsF p k 15))) := by rw [hV4, up2_at]
          have hF4 : Fr [81, 84] V V4 := by rw [hV4, hV3]; exact (hF2.tr (Fr.up (by decide))).tr (Fr.up (by decide))
          rw [u19, w19, show xand (xushr (nxs (nxs (drsF p k 15))) 16) 32767 = dvs (nxs (nxs (drsF p k 15))) from rfl, show xand (xushr (nxs (nxs (nxs (drsF p k 15)))) 16) 32767 = dvs (nxs (nxs (nxs (drsF p k 15)))) from rfl]
          have h4 := dv_m (nxs (nxs (drsF p k 15))) 4 (by omega)
          have ei : wr ((wr ((4 : Int) * (k : Int))) + (dvs (nxs (nxs (drsF p k 15)))).tmod 4) = ((4 * k + ((dvs (nxs (nxs (drsF p k 15)))).tmod 4).toNat : Nat) : Int) := by
            rw [wr_id (x := 4 * (k : Int)) (by omega) (by omega), wr_id (by omega) (by omega)]
            omega
          rw [ei, nn_toNat]
          refine ⟨by clear ei e1; omega, ?_⟩
          rintro V5 hV5
          have := ih (k + 1) V5 (vi ((dvs (nxs (nxs (drsF p k 15)))).tmod 4)) (by clear e1 ei; omega) (by rw [hV5]; exact hF4.tr (Fr.up (by decide))) (by
            show St V5 81 (drS (drsF p k) k)
            unfold drS
            rw [if_pos hb, hV5]
            exact st_sort (s := 81) hS4 hk5 (by clear ei e1; omega))
          rw [show anyF p (k + 1) = (drB (drsF p k) || anyF p k) from rfl, hb, Bool.true_or, if_pos rfl] at this
          rw [e1]
          exact this
  have := go (p 3).toNat 0 V (vr 0) (by omega) Fr.rf hS
  exact this
theorem c_lods_81 (hL : LC 81 V D p ls) {i2 i3 i4 : Int} (h : ∀ V' : xF, ∀ v : Int, Fr [394, 89] V V' → LC 81 V' D (lodsF p ls (p 4).toNat) ls → RY d 257 39 [vr 404, vr 81, vi i2, vi i3, vi i4, vi (p 4)] [] V' D Q) : RY d 257 39 [vr 404, vr 81, vi i2, vi i3, vi i4, vi 0] [] V D Q := by
  have h4 := hL.2.1.2.1
  have go : ∀ (n k : Nat) (V1 : xF), (n : Int) + k = p 4 → Fr [394, 89] V V1 → LC 81 V1 D (lodsF p ls k) ls → RY d 257 39 [vr 404, vr 81, vi i2, vi i3, vi i4, vi (k : Int)] [] V1 D Q := by
    intro n
    induction n with
    | zero =>
      intro k V1 hk hF hL1
      rw [show k = (p 4).toNat by omega] at hL1
      rw [show (k : Int) = p 4 by omega]
      exact h V1 0 hF hL1
    | succ n ih =>
      intro k V1 hk hF hL1
      have e4 := (lodsF_WF (ls := ls) hL.2.1 k (by omega)).2
      have e1 : wr ((k : Int) + 1) = ((k + 1 : Nat) : Int) := by rw [wr_id (by omega) (by omega)]; omega
      refine u_257_39_81 ⟨fun hle => ?_, fun _ => ?_⟩
      · rw [hL1.1.tens, e4] at hle
        omega
      · refine c_settle_81 hL1 (by rw [e4]; clear e1; omega) fun V2 hF2 hL2 => ?_
        show RY d 257 58 _ _ V2 D Q
        refine u_257_58_81 ?_
        rw [e1]
        clear e1
        exact ih (k + 1) V2 (by omega) (hF.tr hF2) hL2
  exact go (p 4).toNat 0 V (by omega) Fr.rf hL
theorem c_days_81 (hS : St V 81 p) (hB : V 2 = xback5) (hW : WF p) (hO : LO V D (D.2.1 81) ls) {n : Nat} {b : Int} (hn : n ≤ 60) (h : ∀ V', Fr (FL ++ [81, 84, 89]) V V' → St V' 81 (daysR p ls b n) → Q (.inl none) V' D) : RY d 257 0 [vr 404, vr 81, vi (n : Int), vi b, vr 0, vr 0] [] V D Q := by
  refine u_257_0_81 (lc_hear_81 hS hB hW hO fun V1 hL1 hF1 => ?_)
  show RY d 257 8 _ _ V1 D Q
  refine u_257_8_81 ?_
  have go : ∀ (m k : Nat) (V2 : xF) (v5 : xV), m + k = n → Fr (FL ++ [81, 84, 89]) V V2 → LC 81 V2 D (daysR p ls b k) ls → RY d 257 11 [vr 404, vr 81, vi (n : Int), vi b, vi (k : Int), v5] [] V2 D Q := by
    intro m
    induction m with
    | zero =>
      intro k V2 v5 hk hF hL2
      have hk : k = n := by omega
      subst hk
      exact u_257_11_81 ⟨fun _ => h V2 hF hL2.1, fun hlt => absurd hlt (Int.lt_irrefl _)⟩
    | succ m ih =>
      intro k V2 v5 hk hF hL2
      obtain ⟨q, hq⟩ : ∃ q, q = daysR p ls b k := ⟨_, rfl⟩
      have hnx : daysR p ls b (k + 1) = dayR q ls b := by rw [hq]; rfl
      rw [← hq] at hL2
      have hWq := hL2.2.1
      have h3 := hWq.1
      have h4 := hWq.2.1
      have e1 : wr ((k : Int) + 1) = ((k + 1 : Nat) : Int) := by rw [wr_id (by omega) (by omega)]; omega
      -- behind the draws
      have rest : ∀ (V3 : xF), Fr (FL ++ [81, 84, 89]) V V3 → LC 81 V3 D (if b = 0 then q else drsF q (q 3).toNat) ls → RY d 257 39 [vr 404, vr 81, vi (n : Int), vi b, vi (k : Int), vi 0] [] V3 D Q := by
        intro V3 hF3 hL3
        have q4 : (if b = 0 then q else drsF q (q 3).toNat) 4 = q 4 := by
          split
          · rfl
          · exact drsF_n (by omega) _ (by clear e1; omega)
        refine c_lods_81 hL3 fun V4 _ hF4 hL4 => ?_
        rw [q4] at hL4 ⊢
        refine u_257_39_81 ⟨fun _ => ?_, fun hlt => ?_⟩
        · rintro V5 hV5
          have s18 : V4 81 18 = lodsF (if b = 0 then q else drsF q (q 3).toNat) ls (q 4).toNat 12 := hL4.1.2.2.2.2.2.2.2.2.2.2.2.2.2.2.2.2.2.1
          have hb12 := hL4.2.1.2.2.2.2.2.2.1
          rw [s18, show yr_291 (wr (lodsF (if b = 0 then q else drsF q (q 3).toNat) ls (q 4).toNat 12 + 1)) 9999 V4 D = dyF (lodsF (if b = 0 then q else drsF q (q 3).toNat) ls (q 4).toNat 12) by
            unfold yr_291 dyF
            rw [wr_id (by clear e1; omega) (by clear e1; omega)]
            clear e1
            (repeat' split) <;> omega] at hV5
          have hS5 : St V5 81 (dayR q ls b) := by rw [hV5]; exact st_day hL4.1
          rw [e1]
          refine ih (k + 1) V5 _ (by clear e1; omega) ?_ ?_
          · rw [hV5]
            exact (hF3.tr (hF4.sub (by decide))).tr (Fr.up (by decide))
          · rw [hnx]
            refine ⟨hS5, day_WF hWq, hL4.2.2.1.cor (fun a ha => by rw [hV5, up2_na (by clear e1; omega)]), ?_⟩
            refine HC.cong (p := lodsF (if b = 0 then q else drsF q (q 3).toNat) ls (q 4).toNat) (fun r hr => ?_) (fun k _ hk _ => rup_n hk) hL4.2.1.1.2
            rw [hV5, up2_na (by decide), up2_na (by decide)]
            exact hL4.2.2.2 r hr
        · rw [hL4.1.tens, (lodsF_WF (ls := ls) hL3.2.1 (q 4).toNat (by rw [q4]; clear e1; omega)).2, q4] at hlt
          clear e1
          omega
      refine u_257_11_81 ⟨fun hle => ?_, fun _ => ⟨fun hb => ?_, fun hb => ?_⟩⟩
      · clear e1
        omega
      · rw [if_pos hb] at rest
        exact rest V2 hF hL2
      · rw [if_neg hb] at rest
        refine c_draw_81 hL2.1 hWq fun V3 hF3 hS3 => ?_
        show RY d 257 25 _ _ V3 D Q
        have hW3 : WF (drsF q (q 3).toNat) := drsF_WF hWq _ (by clear e1; omega)
        have hO3 : LO V3 D (D.2.1 81) ls := hL2.2.2.1.cor fun a ha => hF3 a (by clear e1; simp; omega)
        refine u_257_25_81 ⟨fun hz => ?_, fun hz => ?_⟩
        · have hno : anyF q (q 3).toNat = false := by
            cases hx : anyF q (q 3).toNat
            · rfl
            · rw [hx] at hz; exact absurd hz (by decide)
          refine rest V3 (hF.tr (hF3.sub (by decide))) ⟨hS3, hW3, hO3, ?_⟩
          refine HC.cong (p := q) (fun r hr => ?_) (fun k _ _ hk => drsF_no _ hno k hk) hWq.1.2
          rw [hF3.at_ 392 (by decide), hF3.at_ 393 (by decide)]
          exact hL2.2.2.2 r hr
        · refine lc_hear_81 hS3 (by rw [hF3.at_ 2 (by decide), hF.at_ 2 (by decide)]; exact hB) hW3 hO3 fun V4 hL4 hF4 => ?_
          show RY d 257 36 _ _ V4 D Q
          exact u_257_36_81 (rest V4 ((hF.tr (hF3.sub (by decide))).tr (hF4.sub (by decide))) hL4)
  exact go n 0 V1 _ (by omega) (hF1.sub (by decide)) hL1
theorem c_draw_92 (hS : St V 92 p) (hW : WF p) (h : ∀ V', Fr [92, 95] V V' → St V' 92 (drsF p (p 3).toNat) → Q (.inl (some (vi (if anyF p (p 3).toNat = true then 1 else 0)))) V' D) : RY d 324 0 [vr 92, vr 0, vr 0, vr 0] [] V D Q := by
  have h3 := hW.1
  refine u_324_0_92 ?_
  have go : ∀ (n k : Nat) (V1 : xF) (v3 : xV), (n : Int) + k = p 3 → Fr [92, 95] V V1 → St V1 92 (drsF p k) → RY d 324 4 [vr 92, vi (if anyF p k = true then 1 else 0), vi (k : Int), v3] [] V1 D Q := by
    intro n
    induction n with
    | zero =>
      intro k V1 v3 hk hF hS1
      have e3 : drsF p k 3 = p 3 := drsF_n (by omega) _ (by omega)
      refine u_324_4_92 ⟨fun _ => ⟨by split <;> simp, ?_⟩, fun hlt => ?_⟩
      · rw [show k = (p 3).toNat by omega] at hS1 ⊢
        exact h V1 hF hS1
      · rw [hS1.rooms, e3] at hlt
        omega
    | succ n ih =>
      intro k V1 v3 hk hF hS1
      have hk5 : k < 5 := by omega
      have e3 : drsF p k 3 = p 3 := drsF_n (by omega) _ (by omega)
      have e1 : wr ((k : Int) + 1) = ((k + 1 : Nat) : Int) := by rw [wr_id (by omega) (by omega)]; omega
      refine u_324_4_92 ⟨fun hle => ?_, fun _ => ?_⟩
      · rw [hS1.rooms, e3] at hle
        omega
      · rintro V2 hV2
        have s19 : V1 92 19 = drsF p k 15 := hS1.2.2.2.2.2.2.2.2.2.2.2.2.2.2.2.2.2.2.1
        rw [s19, show wr (wr (1103515245 * drsF p k 15) + 12345) = nxs (drsF p k 15) from rfl] at hV2
        have hS2 : St V2 92 (rup (drsF p k) 15 (nxs (drsF p k 15))) := by rw [hV2]; exact st_seed hS1
        have t19 : V2 92 19 = nxs (drsF p k 15) := by rw [hV2, up2_at]
        have t17 : V2 92 17 = drsF p k 11 := by rw [hV2, up2_ni (by decide)]; exact hS1.2.2.2.2.2.2.2.2.2.2.2.2.2.2.2.2.1
        have hF2 : Fr [92, 95] V V2 := by rw [hV2]; exact hF.tr (Fr.up (by decide))
        rw [t19, t17, show xand (xushr (nxs (drsF p k 15)) 16) 32767 = dvs (nxs (drsF p k 15)) from rfl]
        refine ⟨fun hno => ?_, fun hyes => ?_⟩
        · have hb : drB (drsF p k) = false := decide_eq_false (Int.not_lt.mpr hno)
          have := ih (k + 1) V2 v3 (by clear e1; omega) hF2 (by show St V2 92 (drS (drsF p k) k); unfold drS; rw [if_neg (by rw [hb]; decide)]; exact hS2)
          rw [show anyF p (k + 1) = (drB (drsF p k) || anyF p k) from rfl, hb, Bool.false_or] at this
          rw [e1]
          exact this
        · have hb : drB (drsF p k) = true := decide_eq_true hyes
          rintro V3 hV3 V4 hV4
          rw [show wr (wr (1103515245 * nxs (drsF p k 15)) + 12345) = nxs (nxs (drsF p k 15)) from rfl] at hV3
          have hS3 : St V3 92 (rup (drsF p k) 15 (nxs (nxs (drsF p k 15)))) := by rw [hV3]; have := st_seed (z := nxs (nxs (drsF p k 15))) hS2; rw [rup_rup] at this; exact this
          have u19 : V3 92 19 = nxs (nxs (drsF p k 15)) := by rw [hV3, up2_at]
          rw [u19, show wr (wr (1103515245 * nxs (nxs (drsF p k 15))) + 12345) = nxs (nxs (nxs (drsF p k 15))) from rfl] at hV4
          have hS4 : St V4 92 (rup (drsF p k) 15 (nxs (nxs (nxs (drsF p k 15))))) := by rw [hV4]; have := st_seed (z := nxs (nxs (nxs (drsF p k 15)))) hS3; rw [rup_rup] at this; exact this
          have w19 : V4 92 19 = nxs (nxs (nxs (drsF p k 15))) := by rw [hV4, up2_at]
          have hF4 : Fr [92, 95] V V4 := by rw [hV4, hV3]; exact (hF2.tr (Fr.up (by decide))).tr (Fr.up (by decide))
          rw [u19, w19, show xand (xushr (nxs (nxs (drsF p k 15))) 16) 32767 = dvs (nxs (nxs (drsF p k 15))) from rfl, show xand (xushr (nxs (nxs (nxs (drsF p k 15)))) 16) 32767 = dvs (nxs (nxs (nxs (drsF p k 15)))) from rfl]
          have h4 := dv_m (nxs (nxs (drsF p k 15))) 4 (by omega)
          have ei : wr ((wr ((4 : Int) * (k : Int))) + (dvs (nxs (nxs (drsF p k 15)))).tmod 4) = ((4 * k + ((dvs (nxs (nxs (drsF p k 15)))).tmod 4).toNat : Nat) : Int) := by
            rw [wr_id (x := 4 * (k : Int)) (by omega) (by omega), wr_id (by omega) (by omega)]
            omega
          rw [ei, nn_toNat]
          refine ⟨by clear ei e1; omega, ?_⟩
          rintro V5 hV5
          have := ih (k + 1) V5 (vi ((dvs (nxs (nxs (drsF p k 15)))).tmod 4)) (by clear e1 ei; omega) (by rw [hV5]; exact hF4.tr (Fr.up (by decide))) (by
            show St V5 92 (drS (drsF p k) k)
            unfold drS
            rw [if_pos hb, hV5]
            exact st_sort (s := 92) hS4 hk5 (by clear ei e1; omega))
          rw [show anyF p (k + 1) = (drB (drsF p k) || anyF p k) from rfl, hb, Bool.true_or, if_pos rfl] at this
          rw [e1]
          exact this
  have := go (p 3).toNat 0 V (vr 0) (by omega) Fr.rf hS
  exact this
theorem c_lods_92 (hL : LC 92 V D p ls) {i2 i3 i4 : Int} (h : ∀ V' : xF, ∀ v : Int, Fr [394, 100] V V' → LC 92 V' D (lodsF p ls (p 4).toNat) ls → RY d 257 39 [vr 404, vr 92, vi i2, vi i3, vi i4, vi (p 4)] [] V' D Q) : RY d 257 39 [vr 404, vr 92, vi i2, vi i3, vi i4, vi 0] [] V D Q := by
  have h4 := hL.2.1.2.1
  have go : ∀ (n k : Nat) (V1 : xF), (n : Int) + k = p 4 → Fr [394, 100] V V1 → LC 92 V1 D (lodsF p ls k) ls → RY d 257 39 [vr 404, vr 92, vi i2, vi i3, vi i4, vi (k : Int)] [] V1 D Q := by
    intro n
    induction n with
    | zero =>
      intro k V1 hk hF hL1
      rw [show k = (p 4).toNat by omega] at hL1
      rw [show (k : Int) = p 4 by omega]
      exact h V1 0 hF hL1
    | succ n ih =>
      intro k V1 hk hF hL1
      have e4 := (lodsF_WF (ls := ls) hL.2.1 k (by omega)).2
      have e1 : wr ((k : Int) + 1) = ((k + 1 : Nat) : Int) := by rw [wr_id (by omega) (by omega)]; omega
      refine u_257_39_92 ⟨fun hle => ?_, fun _ => ?_⟩
      · rw [hL1.1.tens, e4] at hle
        omega
      · refine c_settle_92 hL1 (by rw [e4]; clear e1; omega) fun V2 hF2 hL2 => ?_
        show RY d 257 58 _ _ V2 D Q
        refine u_257_58_92 ?_
        rw [e1]
        clear e1
        exact ih (k + 1) V2 (by omega) (hF.tr hF2) hL2
  exact go (p 4).toNat 0 V (by omega) Fr.rf hL
theorem c_days_92 (hS : St V 92 p) (hB : V 2 = xback5) (hW : WF p) (hO : LO V D (D.2.1 92) ls) {n : Nat} {b : Int} (hn : n ≤ 60) (h : ∀ V', Fr (FL ++ [92, 95, 100]) V V' → St V' 92 (daysR p ls b n) → Q (.inl none) V' D) : RY d 257 0 [vr 404, vr 92, vi (n : Int), vi b, vr 0, vr 0] [] V D Q := by
  refine u_257_0_92 (lc_hear_92 hS hB hW hO fun V1 hL1 hF1 => ?_)
  show RY d 257 8 _ _ V1 D Q
  refine u_257_8_92 ?_
  have go : ∀ (m k : Nat) (V2 : xF) (v5 : xV), m + k = n → Fr (FL ++ [92, 95, 100]) V V2 → LC 92 V2 D (daysR p ls b k) ls → RY d 257 11 [vr 404, vr 92, vi (n : Int), vi b, vi (k : Int), v5] [] V2 D Q := by
    intro m
    induction m with
    | zero =>
      intro k V2 v5 hk hF hL2
      have hk : k = n := by omega
      subst hk
      exact u_257_11_92 ⟨fun _ => h V2 hF hL2.1, fun hlt => absurd hlt (Int.lt_irrefl _)⟩
    | succ m ih =>
      intro k V2 v5 hk hF hL2
      obtain ⟨q, hq⟩ : ∃ q, q = daysR p ls b k := ⟨_, rfl⟩
      have hnx : daysR p ls b (k + 1) = dayR q ls b := by rw [hq]; rfl
      rw [← hq] at hL2
      have hWq := hL2.2.1
      have h3 := hWq.1
      have h4 := hWq.2.1
      have e1 : wr ((k : Int) + 1) = ((k + 1 : Nat) : Int) := by rw [wr_id (by omega) (by omega)]; omega
      -- behind the draws
      have rest : ∀ (V3 : xF), Fr (FL ++ [92, 95, 100]) V V3 → LC 92 V3 D (if b = 0 then q else drsF q (q 3).toNat) ls → RY d 257 39 [vr 404, vr 92, vi (n : Int), vi b, vi (k : Int), vi 0] [] V3 D Q := by
        intro V3 hF3 hL3
        have q4 : (if b = 0 then q else drsF q (q 3).toNat) 4 = q 4 := by
          split
          · rfl
          · exact drsF_n (by omega) _ (by clear e1; omega)
        refine c_lods_92 hL3 fun V4 _ hF4 hL4 => ?_
        rw [q4] at hL4 ⊢
        refine u_257_39_92 ⟨fun _ => ?_, fun hlt => ?_⟩
        · rintro V5 hV5
          have s18 : V4 92 18 = lodsF (if b = 0 then q else drsF q (q 3).toNat) ls (q 4).toNat 12 := hL4.1.2.2.2.2.2.2.2.2.2.2.2.2.2.2.2.2.2.1
          have hb12 := hL4.2.1.2.2.2.2.2.2.1
          rw [s18, show yr_291 (wr (lodsF (if b = 0 then q else drsF q (q 3).toNat) ls (q 4).toNat 12 + 1)) 9999 V4 D = dyF (lodsF (if b = 0 then q else drsF q (q 3).toNat) ls (q 4).toNat 12) by
            unfold yr_291 dyF
            rw [wr_id (by clear e1; omega) (by clear e1; omega)]
            clear e1
            (repeat' split) <;> omega] at hV5
          have hS5 : St V5 92 (dayR q ls b) := by rw [hV5]; exact st_day hL4.1
          rw [e1]
          refine ih (k + 1) V5 _ (by clear e1; omega) ?_ ?_
          · rw [hV5]
            exact (hF3.tr (hF4.sub (by decide))).tr (Fr.up (by decide))
          · rw [hnx]
            refine ⟨hS5, day_WF hWq, hL4.2.2.1.cor (fun a ha => by rw [hV5, up2_na (by clear e1; omega)]), ?_⟩
            refine HC.cong (p := lodsF (if b = 0 then q else drsF q (q 3).toNat) ls (q 4).toNat) (fun r hr => ?_) (fun k _ hk _ => rup_n hk) hL4.2.1.1.2
            rw [hV5, up2_na (by decide), up2_na (by decide)]
            exact hL4.2.2.2 r hr
        · rw [hL4.1.tens, (lodsF_WF (ls := ls) hL3.2.1 (q 4).toNat (by rw [q4]; clear e1; omega)).2, q4] at hlt
          clear e1
          omega
      refine u_257_11_92 ⟨fun hle => ?_, fun _ => ⟨fun hb => ?_, fun hb => ?_⟩⟩
      · clear e1
        omega
      · rw [if_pos hb] at rest
        exact rest V2 hF hL2
      · rw [if_neg hb] at rest
        refine c_draw_92 hL2.1 hWq fun V3 hF3 hS3 => ?_
        show RY d 257 25 _ _ V3 D Q
        have hW3 : WF (drsF q (q 3).toNat) := drsF_WF hWq _ (by clear e1; omega)
        have hO3 : LO V3 D (D.2.1 92) ls := hL2.2.2.1.cor fun a ha => hF3 a (by clear e1; simp; omega)
        refine u_257_25_92 ⟨fun hz => ?_, fun hz => ?_⟩
        · have hno : anyF q (q 3).toNat = false := by
            cases hx : anyF q (q 3).toNat
            · rfl
            · rw [hx] at hz; exact absurd hz (by decide)
          refine rest V3 (hF.tr (hF3.sub (by decide))) ⟨hS3, hW3, hO3, ?_⟩
          refine HC.cong (p := q) (fun r hr => ?_) (fun k _ _ hk => drsF_no _ hno k hk) hWq.1.2
          rw [hF3.at_ 392 (by decide), hF3.at_ 393 (by decide)]
          exact hL2.2.2.2 r hr
        · refine lc_hear_92 hS3 (by rw [hF3.at_ 2 (by decide), hF.at_ 2 (by decide)]; exact hB) hW3 hO3 fun V4 hL4 hF4 => ?_
          show RY d 257 36 _ _ V4 D Q
          exact u_257_36_92 (rest V4 ((hF.tr (hF3.sub (by decide))).tr (hF4.sub (by decide))) hL4)
  exact go n 0 V1 _ (by omega) (hF1.sub (by decide)) hL1
end DAYS
