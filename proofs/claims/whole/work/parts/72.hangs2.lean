/-! ===== THE FEWEST WALLS TO HANG ===== -/
/-- the sort of a wall by a number of four figures to the base of five -/
def dg (c w : Nat) : Nat := if w = 0 then c / 125 % 5 else if w = 1 then c / 25 % 5 else if w = 2 then c / 5 % 5 else c % 5
def cdR (p : Rw) (r c : Nat) : Rw := fun k => if 18 + 7 * r ≤ k ∧ k < 22 + 7 * r then ((dg c (k - (18 + 7 * r)) : Nat) : Int) else p k
def ndF (p : Rw) (r c : Nat) : Nat := (if ((dg c 3 : Nat) : Int) = rS p r 3 then 0 else 1) + (if ((dg c 2 : Nat) : Int) = rS p r 2 then 0 else 1) + (if ((dg c 1 : Nat) : Int) = rS p r 1 then 0 else 1) + (if ((dg c 0 : Nat) : Int) = rS p r 0 then 0 else 1)
def mtB (p : Rw) (r o c : Nat) : Bool := eqT (hearM (cdR p r c) r) (hearM p o) 64
def isHg (p : Rw) (r o : Nat) (l c : Nat) : Prop := c < 625 ∧ mtB p r o c = true ∧ ndF p r c = l ∧ ∀ c', c' < 625 → mtB p r o c' = true → l < ndF p r c' ∨ (l = ndF p r c' ∧ c ≤ c')
theorem isHg.uni {p : Rw} {r o l c l' c' : Nat} (h : isHg p r o l c) (h' : isHg p r o l' c') : l = l' ∧ c = c' := by
  obtain ⟨a1, a2, a3, a4⟩ := h
  obtain ⟨b1, b2, b3, b4⟩ := h'
  have x := a4 c' b1 b2
  have y := b4 c a1 a2
  omega
noncomputable def hgL (p : Rw) (r o : Nat) : Int := Classical.epsilon (fun z => ∃ l c : Nat, isHg p r o l c ∧ z = (l : Int))
noncomputable def hgC (p : Rw) (r o : Nat) : Int := Classical.epsilon (fun z => ∃ l c : Nat, isHg p r o l c ∧ z = (c : Int))
theorem isHg.eq {p : Rw} {r o l c : Nat} (h : isHg p r o l c) : (l : Int) = hgL p r o ∧ (c : Int) = hgC p r o := by
  constructor
  · refine eps_eq (P := fun z => ∃ l c : Nat, isHg p r o l c ∧ z = (l : Int)) ?_ ⟨l, c, h, rfl⟩
    rintro a b ⟨l1, c1, h1, rfl⟩ ⟨l2, c2, h2, rfl⟩
    rw [(h1.uni h2).1]
  · refine eps_eq (P := fun z => ∃ l c : Nat, isHg p r o l c ∧ z = (c : Int)) ?_ ⟨l, c, h, rfl⟩
    rintro a b ⟨l1, c1, h1, rfl⟩ ⟨l2, c2, h2, rfl⟩
    rw [(h1.uni h2).2]
noncomputable def hangsA (p : Rw) (r o : Nat) (b : Int) : Int := if rW p r = rW p o ∧ rD p r = rD p o then (if b = 0 then hgC p r o else hgL p r o) else -1
noncomputable def aHangs (p : Rw) (r o b : Int) : aRes := aTwo p r o (.inl (hangsA p r.toNat o.toNat b))
section HANGS2
variable {d : Nat} {V : xF} {D : yD} {Q : xRes → xF → yD → Prop} {p : Rw}
theorem dg_lt (c w : Nat) : dg c w < 5 := by
  unfold dg
  (repeat' split) <;> omega
theorem cdR_n {r c k : Nat} (h : k < 18 + 7 * r ∨ 22 + 7 * r ≤ k) : cdR p r c k = p k := by unfold cdR; rw [if_neg (by omega)]
theorem cdR_w {r c w : Nat} (hw : w < 4) : rS (cdR p r c) r w = ((dg c w : Nat) : Int) := by
  unfold rS cdR
  rw [if_pos (by omega), show 18 + 7 * r + w - (18 + 7 * r) = w by omega]
theorem cdR_WF (hW : WF p) {r c : Nat} (hr : r < 5) : WF (cdR p r c) := by
  refine hW.of (fun k hk => cdR_n (by omega)) (fun r' h => ⟨cdR_n (by omega), cdR_n (by omega), cdR_n (by omega)⟩) (fun r' w' h h' => ?_) (fun k h h' => cdR_n (by omega))
  unfold rS cdR
  split
  · have := dg_lt c (18 + 7 * r' + w' - (18 + 7 * r))
    omega
  · exact hW.sor h h'
/-- two rooms that are hung alike sound alike -/
theorem hear_cong {p q : Rw} {r o : Nat} {x y : Int} (h1 : rW q r = rW p o) (h2 : rD q r = rD p o) (h3 : ∀ w, w < 4 → rS q r w = rS p o w) (h8 : q 8 = p 8) (h9 : q 9 = p 9) (h10 : q 10 = p 10) (t : Nat) : hearT q r x y t = hearT p o x y t := by
  unfold hearT louds
  have ea : acL q r x y t = acL p o x y t := by
    funext z i
    unfold acL imL imT
    rw [h1, h2, h3 0 (by omega), h3 1 (by omega), h3 2 (by omega), h3 3 (by omega), h9]
  rw [ea, h8, h10]
theorem hg_ex (hW : WF p) {r o : Nat} (hr : (r : Int) < p 3) (ho : (o : Int) < p 3) (hn : r ≠ o) (h1 : rW p r = rW p o) (h2 : rD p r = rD p o) : ∃ c, c < 625 ∧ mtB p r o c = true := by
  obtain ⟨r5, hw, hd⟩ := hW.room hr
  have s0 := hW.sor ho (w := 0) (by omega)
  have s1 := hW.sor ho (w := 1) (by omega)
  have s2 := hW.sor ho (w := 2) (by omega)
  have s3 := hW.sor ho (w := 3) (by omega)
  refine ⟨(125 * rS p o 0 + 25 * rS p o 1 + 5 * rS p o 2 + rS p o 3).toNat, by omega, ?_⟩
  unfold mtB hearM
  rw [eqT_iff]
  intro t _
  have e1 : rW (cdR p r (125 * rS p o 0 + 25 * rS p o 1 + 5 * rS p o 2 + rS p o 3).toNat) r = rW p r := cdR_n (by omega)
  have e2 : rD (cdR p r (125 * rS p o 0 + 25 * rS p o 1 + 5 * rS p o 2 + rS p o 3).toNat) r = rD p r := cdR_n (by omega)
  rw [e1, e2, h1, h2]
  refine hear_cong (by rw [e1, h1]) (by rw [e2, h2]) (fun w hw4 => ?_) (cdR_n (by omega)) (cdR_n (by omega)) (cdR_n (by omega)) t
  rw [cdR_w hw4]
  have : w = 0 ∨ w = 1 ∨ w = 2 ∨ w = 3 := by omega
  rcases this with h | h | h | h <;> subst h
  · rw [show dg (125 * rS p o 0 + 25 * rS p o 1 + 5 * rS p o 2 + rS p o 3).toNat 0 = (125 * rS p o 0 + 25 * rS p o 1 + 5 * rS p o 2 + rS p o 3).toNat / 125 % 5 from rfl]
    omega
  · rw [show dg (125 * rS p o 0 + 25 * rS p o 1 + 5 * rS p o 2 + rS p o 3).toNat 1 = (125 * rS p o 0 + 25 * rS p o 1 + 5 * rS p o 2 + rS p o 3).toNat / 25 % 5 from rfl]
    omega
  · rw [show dg (125 * rS p o 0 + 25 * rS p o 1 + 5 * rS p o 2 + rS p o 3).toNat 2 = (125 * rS p o 0 + 25 * rS p o 1 + 5 * rS p o 2 + rS p o 3).toNat / 5 % 5 from rfl]
    omega
  · rw [show dg (125 * rS p o 0 + 25 * rS p o 1 + 5 * rS p o 2 + rS p o 3).toNat 3 = (125 * rS p o 0 + 25 * rS p o 1 + 5 * rS p o 2 + rS p o 3).toNat % 5 from rfl]
    omega
theorem dgI {c : Nat} (hc : c < 625) : (c : Int).tmod 5 = ((dg c 3 : Nat) : Int) ∧ wr ((c : Int).tdiv 5) = ((c / 5 : Nat) : Int) ∧ ((c / 5 : Nat) : Int).tmod 5 = ((dg c 2 : Nat) : Int) ∧ wr (((c / 5 : Nat) : Int).tdiv 5) = ((c / 25 : Nat) : Int) ∧ ((c / 25 : Nat) : Int).tmod 5 = ((dg c 1 : Nat) : Int) ∧ wr (((c / 25 : Nat) : Int).tdiv 5) = ((c / 125 : Nat) : Int) ∧ ((c / 125 : Nat) : Int).tmod 5 = ((dg c 0 : Nat) : Int) := by
  rw [tmod_nn (by omega), tdiv_nn (by omega), tmod_nn (by omega), tdiv_nn (by omega), tmod_nn (by omega), tdiv_nn (by omega), tmod_nn (by omega), wr_id (by omega) (by omega), wr_id (by omega) (by omega), wr_id (by omega) (by omega)]
  show _ = ((c % 5 : Nat) : Int) ∧ _ ∧ _ = ((c / 5 % 5 : Nat) : Int) ∧ _ ∧ _ = ((c / 25 % 5 : Nat) : Int) ∧ _ ∧ _ = ((c / 125 % 5 : Nat) : Int)
  omega
/-- nothing but the walls of a room -/
def wlE (p q : Rw) (r : Nat) : Prop := ∀ k, (k < 18 + 7 * r ∨ 22 + 7 * r ≤ k) → q k = p k
theorem rup4 {q : Rw} {r c : Nat} (h : wlE p q r) (k : Nat) : rup (rup (rup (rup q (18 + 7 * r + 3) (dg c 3 : Nat)) (18 + 7 * r + 2) (dg c 2 : Nat)) (18 + 7 * r + 1) (dg c 1 : Nat)) (18 + 7 * r + 0) (dg c 0 : Nat) k = cdR p r c k := by
  unfold rup cdR
  by_cases h0 : k = 18 + 7 * r + 0
  · rw [if_pos h0, if_pos (by omega), show k - (18 + 7 * r) = 0 by omega]
  · rw [if_neg h0]
    by_cases h1 : k = 18 + 7 * r + 1
    · rw [if_pos h1, if_pos (by omega), show k - (18 + 7 * r) = 1 by omega]
    · rw [if_neg h1]
      by_cases h2 : k = 18 + 7 * r + 2
      · rw [if_pos h2, if_pos (by omega), show k - (18 + 7 * r) = 2 by omega]
      · rw [if_neg h2]
        by_cases h3 : k = 18 + 7 * r + 3
        · rw [if_pos h3, if_pos (by omega), show k - (18 + 7 * r) = 3 by omega]
        · rw [if_neg h3, if_neg (by omega), h k (by omega)]
theorem wi95 {r w : Nat} (hr : r < 5) (hw : w < 4) : wr ((wr ((4 : Int) * (r : Int))) + (w : Int)) = (((4 * r + w : Nat)) : Int) := by
  rw [wr_id (x := 4 * (r : Int)) (by omega) (by omega), wr_id (by omega) (by omega)]
  omega
theorem c_hangAll {q : Rw} {r c : Nat} (hS : St V 92 q) (hq : wlE p q r) (hr : r < 5) (hc : c < 625) (hw : ∀ w, w < 4 → V 389 w = rS p r w) (h : ∀ V', St V' 92 (cdR p r c) → Fr [95] V V' → Q (.inl (some (vi (ndF p r c : Nat)))) V' D) : RY d 335 0 [vr 382, vr 92, vi (r : Int), vi (c : Int), vr 0, vr 0, vr 0] [] V D Q := by
  obtain ⟨i1, i2, i3, i4, i5, i6, i7⟩ := dgI hc
  refine u_335_0_92 ?_
  have stp : ∀ (w : Nat) (z i5 n : Int) (V1 : xF) (q1 : Rw), w < 4 → 0 ≤ n ∧ n ≤ 3 → i5.tmod 5 = z → St V1 92 q1 → V1 389 w = rS p r w → (∀ V2, St V2 92 (rup q1 (18 + 7 * r + w) z) → Fr [95] V1 V2 → RY d 335 9 [vr 382, vr 92, vi (r : Int), vi (c : Int), vi (n + (if z = rS p r w then 0 else 1)), vi (wr (i5.tdiv 5)), vi ((w : Int) - 1)] [] V2 D Q) → RY d 335 9 [vr 382, vr 92, vi (r : Int), vi (c : Int), vi n, vi i5, vi (w : Int)] [] V1 D Q := by
    intro w z i5 n V1 q1 hw4 hn hz S1 h389 hx
    refine u_335_9_92 ⟨fun h5 => by omega, fun _ => ?_⟩
    rw [wi95 hr hw4, nn_toNat, nn_toNat, hz, wr_id (x := (w : Int) + (-1)) (by omega) (by omega), show (w : Int) + (-1) = (w : Int) - 1 by omega, wr_id (x := n + 1) (by omega) (by omega)]
    refine ⟨by omega, ?_⟩
    rintro V2 rfl
    rw [up2_at, up2_na (by decide), h389]
    have := hx _ (st_sort (z := z) S1 hr hw4) (Fr.up (by decide))
    refine ⟨by omega, by omega, fun h5 => ?_, fun h5 => ?_⟩
    · rw [if_pos h5, Int.add_zero] at this; exact this
    · rw [if_neg h5] at this; exact this
  refine stp 3 _ _ 0 V q (by omega) (by omega) i1 hS (hw 3 (by omega)) (fun V1 S1 F1 => ?_)
  rw [i2]
  refine stp 2 _ _ _ V1 _ (by omega) (by split <;> omega) i3 S1 (by rw [F1.at_ 389 (by decide)]; exact hw 2 (by omega)) (fun V2 S2 F2 => ?_)
  rw [i4]
  have F12 := F1.tr F2
  refine stp 1 _ _ _ V2 _ (by omega) (by (repeat' split) <;> omega) i5 S2 (by rw [F12.at_ 389 (by decide)]; exact hw 1 (by omega)) (fun V3 S3 F3 => ?_)
  rw [i6]
  have F13 := F12.tr F3
  refine stp 0 _ _ _ V3 _ (by omega) (by (repeat' split) <;> omega) i7 S3 (by rw [F13.at_ 389 (by decide)]; exact hw 0 (by omega)) (fun V4 S4 F4 => ?_)
  refine u_335_9_92 ⟨fun _ => ?_, fun h5 => by omega⟩
  have := h V4 (St.ext S4 (fun k _ => (rup4 hq k).symm)) (F13.tr F4)
  have e : ((ndF p r c : Nat) : Int) = 0 + (if ((dg c 3 : Nat) : Int) = rS p r 3 then 0 else 1) + (if ((dg c 2 : Nat) : Int) = rS p r 2 then 0 else 1) + (if ((dg c 1 : Nat) : Int) = rS p r 1 then 0 else 1) + (if ((dg c 0 : Nat) : Int) = rS p r 0 then 0 else 1) := by
    unfold ndF
    (repeat' split) <;> rfl
  rw [← e]
  exact this
theorem mt48 (hW : WF p) {r o c : Nat} (hr : (r : Int) < p 3) (ho : (o : Int) < p 3) : eqT (hearM (cdR p r c) r) (hearM p o) 48 = mtB p r o c := by
  have r5 := (hW.room hr).1
  have e3 : cdR p r c 3 = p 3 := cdR_n (by omega)
  exact (eqT_hi (n := 48) 16 (fun t ht => by rw [hearM_hi (cdR_WF hW r5) (by rw [e3]; exact hr) ht, hearM_hi hW ho ht])).symm
theorem c_fewest {r o : Nat} {b : Int} (hS : St V 92 p) (hB : V 2 = xback5) (hW : WF p) (hr : (r : Int) < p 3) (ho : (o : Int) < p 3) (hn : r ≠ o) (h1 : rW p r = rW p o) (h2 : rD p r = rD p o) (h : ∀ V', Cor V V' → Q (.inl (some (vi (if b = 0 then hgC p r o else hgL p r o)))) V' D) : RY d 278 0 [vr 382, vr 92, vi (r : Int), vi (o : Int), vi b, vr 0, vr 0] [] V D Q := by
  obtain ⟨r5, hw, hd⟩ := hW.room hr
  obtain ⟨o5, -, -⟩ := hW.room ho
  obtain ⟨c0, hc0, hm0⟩ := hg_ex hW hr ho hn h1 h2
  have nd4 : ∀ c, ndF p r c ≤ 4 := fun c => by unfold ndF; (repeat' split) <;> omega
  refine u_278_0_92 ?_
  -- the search
  have srch : ∀ (c k w : Nat) (V1 : xF) (q : Rw), w + c = 625 → k ≤ 4 → St V1 92 q → wlE p q r → (∀ w, w < 4 → V1 389 w = rS p r w) → (∀ t, t < 48 → V1 385 t = hearM p o t) → Fr aSk V V1 → (∀ c', c' < 625 → mtB p r o c' = true → k ≤ ndF p r c') → (∀ c', c' < w → mtB p r o c' = true → ndF p r c' ≠ k) → (∀ V2 q v, St V2 92 q → wlE p q r → (∀ w, w < 4 → V2 389 w = rS p r w) → (∀ t, t < 48 → V2 385 t = hearM p o t) → Fr aSk V V2 → (∀ c', c' < 625 → mtB p r o c' = true → k + 1 ≤ ndF p r c') → RY d 278 56 [vr 382, vr 92, vi (r : Int), vi (o : Int), vi b, vi (((k + 1 : Nat)) : Int), v] [] V2 D Q) → RY d 278 65 [vr 382, vr 92, vi (r : Int), vi (o : Int), vi b, vi (k : Int), vi (w : Int)] [] V1 D Q := by
    intro c
    induction c with
    | zero =>
      intro k w V1 q hw4 hk S1 hq h389 h385 F1 hlo hno hx
      refine u_278_65_92 ⟨fun _ => ?_, fun h5 => by omega⟩
      rw [wr_id (by omega) (by omega)]
      refine hx V1 q _ S1 hq h389 h385 F1 (fun c' hc' hm => ?_)
      have := hlo c' hc' hm
      have := hno c' (by omega) hm
      omega
    | succ c ih =>
      intro k w V1 q hw4 hk S1 hq h389 h385 F1 hlo hno hx
      refine u_278_65_92 ⟨fun h5 => by omega, fun _ => c_hangAll S1 hq r5 (by omega) h389 (fun V2 S2 F2 => u_278_81_92 ?_)⟩
      rw [wr_id (x := (w : Int) + 1) (by omega) (by omega)]
      have hq2 : wlE p (cdR p r w) r := fun k hk => cdR_n hk
      have g389 : ∀ w, w < 4 → V2 389 w = rS p r w := fun w hw => by rw [F2.at_ 389 (by decide)]; exact h389 w hw
      have g385 : ∀ t, t < 48 → V2 385 t = hearM p o t := fun t ht => by rw [F2.at_ 385 (by decide)]; exact h385 t ht
      have F12 : Fr aSk V V2 := F1.tr (F2.sub (by decide))
      have e3 : cdR p r w 3 = p 3 := cdR_n (by omega)
      refine ⟨fun h5 => ?_, fun h5 => ?_⟩
      · refine ih k (w + 1) V2 _ (by omega) hk S2 hq2 g389 g385 F12 hlo (fun c' hc' hm => ?_) hx
        by_cases e : c' = w
        · subst e; omega
        · exact hno c' (by omega) hm
      · refine u_336_0_92 ⟨yg211_92 r5, c_mid_92 S2 (by rw [F12.at_ 2 (by decide)]; exact hB) (cdR_WF hW r5) (by rw [e3]; exact hr) (rep384 (n := 0) (by omega)) (fun V3 h3 F3 => u_336_20_92 ?_)⟩
        refine c_unlike (f := hearM (cdR p r w) r) (g := hearM p o) (rep384 (n := 0) (by omega)) (rep384 (n := 1) (by omega)) h3 (fun t ht => by rw [F3.at_ 385 (by decide)]; exact g385 t ht) ?_
        rw [mt48 hW hr ho]
        have F13 : Fr aSk V V3 := F12.tr (F3.sub (by decide))
        have S3 : St V3 92 (cdR p r w) := St.keep S2 (fun k hk => F3.at_ _ (by simp only [List.mem_cons, List.not_mem_nil, or_false]; omega))
        cases hm : mtB p r o w with
        | true =>
          refine u_336_35_92 ⟨fun h6 => absurd rfl h6, fun _ => u_278_92_92 ⟨fun h6 => absurd h6 (by decide), fun _ => ?_⟩⟩
          have hg : isHg p r o k w := ⟨by omega, hm, by omega, fun c' hc' hm' => by
            have a1 := hlo c' hc' hm'
            by_cases e : c' < w
            · have := hno c' e hm'; omega
            · omega⟩
          have hQ := h V3 (aSk_cor F13)
          rw [← hg.eq.1, ← hg.eq.2] at hQ
          refine ⟨fun h6 => ?_, fun h6 => ?_⟩
          · rw [if_pos h6] at hQ; exact hQ
          · rw [if_neg h6] at hQ; exact hQ
        | false =>
          refine u_336_35_92 ⟨fun _ => u_278_92_92 ⟨fun _ => ?_, fun h6 => absurd rfl h6⟩, fun h6 => absurd h6 (by decide)⟩
          rw [wr_id (x := (w : Int) + 1) (by omega) (by omega)]
          refine ih k (w + 1) V3 _ (by omega) hk S3 hq2 (fun w hw => by rw [F3.at_ 389 (by decide)]; exact g389 w hw) (fun t ht => by rw [F3.at_ 385 (by decide)]; exact g385 t ht) F13 hlo (fun c' hc' hm' => ?_) hx
          by_cases e : c' = w
          · subst e; rw [hm] at hm'; cases hm'
          · exact hno c' (by omega) hm'
  have outer : ∀ (c k : Nat) (V1 : xF) (q : Rw) (v : xV), k + c = 5 → St V1 92 q → wlE p q r → (∀ w, w < 4 → V1 389 w = rS p r w) → (∀ t, t < 48 → V1 385 t = hearM p o t) → Fr aSk V V1 → (∀ c', c' < 625 → mtB p r o c' = true → k ≤ ndF p r c') → RY d 278 56 [vr 382, vr 92, vi (r : Int), vi (o : Int), vi b, vi (k : Int), v] [] V1 D Q := by
    intro c
    induction c with
    | zero =>
      intro k V1 q v hk S1 hq h389 h385 F1 hlo
      have := hlo c0 hc0 hm0
      have := nd4 c0
      omega
    | succ c ih =>
      intro k V1 q v hk S1 hq h389 h385 F1 hlo
      refine u_278_56_92 ⟨fun h5 => by omega, fun _ => ?_⟩
      exact srch 625 k 0 V1 q (by omega) (by omega) S1 hq h389 h385 F1 hlo (fun c' hc' => by omega) (fun V2 q v S2 hq2 g389 g385 F2 hlo2 => ih (k + 1) V2 q v (by omega) S2 hq2 g389 g385 F2 hlo2)
  -- the walls as they were
  have was : ∀ (c w : Nat) (V1 : xF), w + c = 4 → Fr [389] V V1 → (∀ k, k < w → V1 389 k = rS p r k) → RY d 278 3 [vr 382, vr 92, vi (r : Int), vi (o : Int), vi b, vi (w : Int), vr 0] [] V1 D Q := by
    intro c
    induction c with
    | zero =>
      intro w V1 hw4 F1 hk
      have S1 : St V1 92 p := St.keep hS (fun k hk => F1.at_ _ (by simp only [List.mem_cons, List.not_mem_nil, or_false]; omega))
      refine u_278_3_92 ⟨fun _ => ⟨yg211_92 o5, c_mid_92 S1 (by rw [F1.at_ 2 (by decide)]; exact hB) hW ho (rep384 (n := 1) (by omega)) (fun V2 h3 F2 => u_278_53_92 ?_)⟩, fun h5 => by omega⟩
      refine outer 5 0 V2 p _ (by omega) (St.keep S1 (fun k hk => F2.at_ _ (by simp only [List.mem_cons, List.not_mem_nil, or_false]; omega))) (fun _ _ => rfl) (fun w hw => ?_) h3 ((F1.sub (by decide)).tr (F2.sub (by decide))) (fun c' _ _ => by omega)
      rw [F2.at_ 389 (by decide)]
      exact hk w (by omega)
    | succ c ih =>
      intro w V1 hw4 F1 hk
      refine u_278_3_92 ⟨fun h5 => by omega, fun _ => ?_⟩
      rw [wi95 r5 (by omega), nn_toNat, nn_toNat, wr_id (x := (w : Int) + 1) (by omega) (by omega)]
      refine ⟨by omega, by omega, ?_⟩
      rintro V2 rfl
      have e95 : V1 95 (4 * r + w) = rS p r w := by
        rw [F1.at_ 95 (by decide)]
        exact hS.2.2.2.1 r w r5 (by omega)
      rw [e95]
      refine ih (w + 1) _ (by omega) (F1.tr (Fr.up (by decide))) (fun k hk2 => ?_)
      rw [up2_a]
      by_cases e : k = w
      · rw [if_pos e, e]
      · rw [if_neg e]; exact hk k (by omega)
  exact was 4 0 V (by omega) Fr.rf (fun k hk => by omega)
theorem ca_hangs {r o b : Int} (hS : St V 81 p) (hB : V 2 = xback5) (hW : WF p) (hl : D.2.1 81 ≠ 0) (h : ∀ V' D', Cor V V' → CorD D D' → Q (cRes (aHangs p r o b)) V' D') : RY d 193 0 [vr 70, vi r, vi o, vi b] [] V D Q := by
  unfold aHangs at h
  refine u_193_0 (c_needTwo hS (fun h2 hn => ?_) (fun h2 => ⟨rfl, by rw [aTwo_n h2] at h; exact h V _ Cor.rf CorD.exc⟩) (fun h2 he => ⟨rfl, by rw [aTwo_e h2 he] at h; exact h V _ Cor.rf CorD.exc⟩))
  rw [aTwo_y h2 hn] at h
  obtain ⟨r5, er⟩ := hW.r5 h2.1
  obtain ⟨o5, eo⟩ := hW.r5 h2.2
  have e1 : V 82 r.toNat = rW p r.toNat := hS.2.1 _ r5
  have e2 : V 83 r.toNat = rD p r.toNat := hS.2.2.1 _ r5
  have e3 : V 82 o.toNat = rW p o.toNat := hS.2.1 _ o5
  have e4 : V 83 o.toNat = rD p o.toNat := hS.2.2.1 _ o5
  unfold hangsA at h
  refine u_193_6 ?_
  rw [e1, e2, e3, e4]
  refine ⟨by omega, by omega, fun h5 => ?_, fun h5 => ⟨by omega, by omega, fun h6 => ?_, fun h6 => ?_⟩⟩
  · rw [if_neg (fun hc => h5 hc.1)] at h; exact h V D Cor.rf CorD.rf
  · rw [if_pos ⟨h5, h6⟩] at h
    refine c_copy StA_92 StA_81 (by omega) hl (fun V1 hC => u_193_61 ?_)
    have S1 := hC.st hS
    rw [← er, ← eo]
    refine c_fewest S1 (by rw [hC.2 2 (by omega)]; exact hB) hW (by rw [er]; exact h2.1.2) (by rw [eo]; exact h2.2.2) (by omega) h5 h6 (fun V2 C2 => u_193_75 ?_)
    refine h V2 _ (hC.cor.tr C2) ⟨fun a ha => ?_, rfl, rfl, by dsimp only; omega, by dsimp only; omega⟩
    show up1 D.2.1 92 (D.2.1 81) a = D.2.1 a
    unfold up1
    rw [if_neg ha]
  · rw [if_neg (fun hc => h6 hc.2)] at h; exact h V D Cor.rf CorD.rf
/-! ===== the model's ===== -/
theorem m_hung {r c u : Nat} (hr : r < 5) (hc : c < 625) (hu : u < 625) {q : Rw} (hV : wlE p (V 406) r) (h : ∀ V', V' 406 = cdR p r c → Fr [406] V V' → Q (.inl (some (vi ((((if dg c 3 = dg u 3 then 0 else 1) + (if dg c 2 = dg u 2 then 0 else 1) + (if dg c 1 = dg u 1 then 0 else 1) + (if dg c 0 = dg u 0 then 0 else 1) : Nat)) : Int)))) V' D) : RY d 195 0 [vr 405, vi (r : Int), vi (c : Int), vi (u : Int), vr 0, vr 0, vr 0, vr 0] [] V D Q := by
  obtain ⟨i1, i2, i3, i4, i5, i6, i7⟩ := dgI hc
  obtain ⟨j1, j2, j3, j4, j5, j6, j7⟩ := dgI hu
  refine u_195_0 ?_
  have stp : ∀ (w z z' : Nat) (i5 i6 : Int) (n : Nat) (V1 : xF), w < 4 → n ≤ 3 → i5.tmod 5 = (z : Int) → i6.tmod 5 = (z' : Int) → (∀ V2, V2 406 = rup (V1 406) (18 + 7 * r + w) (z : Int) → Fr [406] V1 V2 → RY d 195 12 [vr 405, vi (r : Int), vi (c : Int), vi (u : Int), vi (((n + (if z = z' then 0 else 1) : Nat)) : Int), vi (wr (i5.tdiv 5)), vi (wr (i6.tdiv 5)), vi ((w : Int) - 1)] [] V2 D Q) → RY d 195 12 [vr 405, vi (r : Int), vi (c : Int), vi (u : Int), vi (n : Int), vi i5, vi i6, vi (w : Int)] [] V1 D Q := by
    intro w z z' i5 i6 n V1 hw4 hn hz hz' hx
    refine u_195_12 ⟨fun h5 => by omega, fun _ => ?_⟩
    rw [mi406 hr hw4, nn_toNat, hz, hz', wr_id (x := (w : Int) + (-1)) (by omega) (by omega), show (w : Int) + (-1) = (w : Int) - 1 by omega, wr_id (x := (n : Int) + 1) (by omega) (by omega), wr_id (x := (n : Int) + 0) (by omega) (by omega)]
    refine ⟨by omega, ?_⟩
    rintro V2 rfl
    have := hx (up2 V1 406 (18 + 7 * r + w) (z : Int)) (by funext k; rw [up2_a]; rfl) (Fr.up (by decide))
    refine ⟨fun h5 => ?_, fun h5 => ?_⟩
    · rw [if_neg (by omega)] at this
      exact this
    · rw [if_pos (by omega)] at this
      exact this
  refine stp 3 _ _ _ _ 0 V (by omega) (by omega) i1 j1 (fun V1 e1 F1 => ?_)
  rw [i2, j2]
  refine stp 2 _ _ _ _ _ V1 (by omega) (by split <;> omega) i3 j3 (fun V2 e2 F2 => ?_)
  rw [i4, j4]
  refine stp 1 _ _ _ _ _ V2 (by omega) (by (repeat' split) <;> omega) i5 j5 (fun V3 e3 F3 => ?_)
  rw [i6, j6]
  refine stp 0 _ _ _ _ _ V3 (by omega) (by (repeat' split) <;> omega) i7 j7 (fun V4 e4 F4 => ?_)
  refine u_195_12 ⟨fun _ => ?_, fun h5 => by omega⟩
  have := h V4 (by funext k; rw [e4, e3, e2, e1]; exact rup4 hV k) (((F1.tr F2).tr F3).tr F4)
  rw [Nat.zero_add]
  exact this
/-- the number of a room's walls -/
def wsN (p : Rw) (r : Nat) : Nat := (125 * rS p r 0 + 25 * rS p r 1 + 5 * rS p r 2 + rS p r 3).toNat
theorem wsN_dg (hW : WF p) {r w : Nat} (hr : (r : Int) < p 3) (hw : w < 4) : wsN p r < 625 ∧ ((dg (wsN p r) w : Nat) : Int) = rS p r w := by
  have s0 := hW.sor hr (w := 0) (by omega)
  have s1 := hW.sor hr (w := 1) (by omega)
  have s2 := hW.sor hr (w := 2) (by omega)
  have s3 := hW.sor hr (w := 3) (by omega)
  unfold wsN
  refine ⟨by omega, ?_⟩
  have : w = 0 ∨ w = 1 ∨ w = 2 ∨ w = 3 := by omega
  rcases this with h | h | h | h <;> subst h
  · show (((125 * rS p r 0 + 25 * rS p r 1 + 5 * rS p r 2 + rS p r 3).toNat / 125 % 5 : Nat) : Int) = _; omega
  · show (((125 * rS p r 0 + 25 * rS p r 1 + 5 * rS p r 2 + rS p r 3).toNat / 25 % 5 : Nat) : Int) = _; omega
  · show (((125 * rS p r 0 + 25 * rS p r 1 + 5 * rS p r 2 + rS p r 3).toNat / 5 % 5 : Nat) : Int) = _; omega
  · show (((125 * rS p r 0 + 25 * rS p r 1 + 5 * rS p r 2 + rS p r 3).toNat % 5 : Nat) : Int) = _; omega
theorem wsN_R (hW : WF p) {r : Nat} (hr : (r : Int) < p 3) : cdR p r (wsN p r) = p := by
  funext k
  unfold cdR
  split
  · rename_i hk
    rw [(wsN_dg hW hr (w := k - (18 + 7 * r)) (by omega)).2]
    unfold rS
    rw [show 18 + 7 * r + (k - (18 + 7 * r)) = k by omega]
  · rfl
theorem wsN_nd (hW : WF p) {r : Nat} (hr : (r : Int) < p 3) (c : Nat) : ((if dg c 3 = dg (wsN p r) 3 then 0 else 1) + (if dg c 2 = dg (wsN p r) 2 then 0 else 1) + (if dg c 1 = dg (wsN p r) 1 then 0 else 1) + (if dg c 0 = dg (wsN p r) 0 then 0 else 1) : Nat) = ndF p r c := by
  have e : ∀ w, w < 4 → ((dg c w = dg (wsN p r) w) ↔ ((dg c w : Nat) : Int) = rS p r w) := fun w hw => by have := (wsN_dg hW hr hw).2; omega
  unfold ndF
  simp only [e 3 (by omega), e 2 (by omega), e 1 (by omega), e 0 (by omega)]
theorem ma_hangs {r o b : Int} (hW : WF (V 406)) (h : ∀ V', V' 405 0 = mCd 2 (aHangs (V 406) r o b) → Cor V V' → Q (.inl (some (vi (mVal (aHangs (V 406) r o b))))) V' D) : RY d 62 0 [vr 405, vi r, vi o, vi b, vr 0, vr 0, vr 0, vr 0, vr 0, vr 0] [] V D Q := by
  unfold aHangs at h
  refine u_62_0 (m_areTwo hW (fun h2 hn V1 t1 C1 F1 => ?_) (fun h2 V1 t1 C1 => ?_) (fun h2 he V1 t1 C1 => ?_))
  · rw [aTwo_y h2 hn] at h
    have e6 : V1 406 = V 406 := C1.at_ 406 rfl
    obtain ⟨p, hp⟩ : ∃ p, p = V 406 := ⟨_, rfl⟩
    rw [← hp] at h hW h2 e6
    obtain ⟨r, rfl⟩ : ∃ k : Nat, r = (k : Int) := ⟨r.toNat, by have := h2.1; omega⟩
    obtain ⟨o, rfl⟩ : ∃ k : Nat, o = (k : Int) := ⟨o.toNat, by have := h2.2; omega⟩
    rw [nn_toNat, nn_toNat] at h
    have hr := h2.1.2
    have ho := h2.2.2
    obtain ⟨r5, hw, hd⟩ := hW.room hr
    obtain ⟨o5, -, -⟩ := hW.room ho
    have hq : ∀ V', V' 405 0 = 0 → Cor V1 V' → Q (.inl (some (vi (hangsA p r o b)))) V' D := fun V' t C => h V' t (C1.tr C)
    clear h
    unfold hangsA at hq
    refine u_62_6 ⟨fun _ => ?_, fun h5 => by omega⟩
    rw [yr133_0 r5, yr133_0 o5, yr133_1 r5, yr133_1 o5, e6]
    refine ⟨yg133 r5 (by omega), yg133 o5 (by omega), fun h5 => ?_, fun h5 => ⟨yg133 r5 (by omega), yg133 o5 (by omega), fun h6 => ?_, fun h6 => ?_⟩⟩
    · simp only [if_neg (fun hc : rW p r = rW p o ∧ rD p r = rD p o => h5 hc.1)] at hq; exact hq V1 t1 Cor.rf
    · simp only [if_pos (⟨h5, h6⟩ : rW p r = rW p o ∧ rD p r = rD p o)] at hq
      refine m_mid (by rw [e6]; exact hW) (by rw [e6]; exact ho) ?_
      rw [e6]
      intro V2 hh F2
      refine u_62_52 (m_keeps hh (fun V3 h414 F3 => u_62_58 ?_))
      have FL : Fr [412, 413, 414, 406] V1 V3 := (F2.sub (by decide)).tr (F3.sub (by decide))
      have e63 : V3 406 = p := by rw [F3.at_ 406 (by decide), F2.at_ 406 (by decide), e6]
      obtain ⟨i4, hi4⟩ : ∃ i4 : Int, i4 = cntT (hearM p o) 64 := ⟨_, rfl⟩
      rw [← hi4]
      clear hi4
      -- the number of the walls
      have hws := wsN_dg hW hr (w := 0) (by omega)
      have s0 := hW.sor hr (w := 0) (by omega)
      have s1 := hW.sor hr (w := 1) (by omega)
      have s2 := hW.sor hr (w := 2) (by omega)
      have s3 := hW.sor hr (w := 3) (by omega)
      have dig : ∀ (w : Nat) (i5 : Int), w < 4 → 0 ≤ i5 ∧ i5 < 125 → RY d 62 64 [vr 405, vi (r : Int), vi (o : Int), vi b, vi i4, vi (5 * i5 + rS p r w), vi (((w + 1 : Nat)) : Int), vr 0, vr 0, vr 0] [] V3 D Q → RY d 62 64 [vr 405, vi (r : Int), vi (o : Int), vi b, vi i4, vi i5, vi (w : Int), vr 0, vr 0, vr 0] [] V3 D Q := by
        intro w i5 hw4 h5 hx
        clear hws s0 s1 s2 s3
        have sw := hW.sor hr hw4
        refine u_62_64 ⟨fun h7 => by omega, fun _ => ?_⟩
        have ew : wr (2 + (w : Int)) = (((2 + w : Nat)) : Int) := by rw [wr_id (by omega) (by omega)]; omega
        rw [ew, yr133_w r5 hw4, e63]
        clear ew
        rw [wr_id (x := (w : Int) + 1) (by omega) (by omega), wr_id (x := 5 * i5) (by omega) (by omega), wr_id (x := 5 * i5 + rS p r w) (by omega) (by omega)]
        exact ⟨yg133 r5 (by omega), hx⟩
      refine dig 0 0 (by omega) (by omega) (dig 1 _ (by omega) (by omega) (dig 2 _ (by omega) (by omega) (dig 3 _ (by omega) (by omega) ?_)))
      have ew : 5 * (5 * (5 * (5 * 0 + rS p r 0) + rS p r 1) + rS p r 2) + rS p r 3 = ((wsN p r : Nat) : Int) := by unfold wsN; omega
      rw [ew]
      refine u_62_64 ⟨fun _ => ?_, fun h7 => by omega⟩
      have main : ∀ (n c : Nat) (f l i4 : Int) (V4 : xF) (v9 : xV), c + n = 625 → Fr [412, 413, 414, 406] V1 V4 → wlE p (V4 406) r → (∀ t, t < 64 → V4 414 t = hearM p o t) → ((f = -1 ∧ l = 2000000000 ∧ ∀ c', c' < c → mtB p r o c' = false) ∨ ∃ l' k : Nat, f = (k : Int) ∧ l = (l' : Int) ∧ k < c ∧ mtB p r o k = true ∧ ndF p r k = l' ∧ ∀ c', c' < c → mtB p r o c' = true → l' < ndF p r c' ∨ (l' = ndF p r c' ∧ k ≤ c')) → RY d 62 103 [vr 405, vi (r : Int), vi (o : Int), vi b, vi i4, vi ((wsN p r : Nat) : Int), vi f, vi l, vi (c : Int), v9] [] V4 D Q := by
        intro n
        induction n with
        | zero =>
          intro c f l i4 V4 v9 hc F4 hw4 h414 hb
          have : c = 625 := by omega
          subst this
          refine u_62_103 ⟨fun _ => m_hung (q := p) r5 hws.1 hws.1 hw4 (fun V5 e5 F5 => u_62_169 ?_), fun h7 => by omega⟩
          rw [wsN_R hW hr] at e5
          rcases hb with ⟨-, -, b3⟩ | ⟨l', k, b1, b2, b3, b4, b5, b6⟩
          · obtain ⟨c0, hc0, hm0⟩ := hg_ex hW hr ho (by omega) h5 h6
            rw [b3 c0 hc0] at hm0
            cases hm0
          · have hg : isHg p r o l' k := ⟨b3, b4, b5, b6⟩
            have C5 : Cor V1 V5 := by
              have F45 := F4.tr (F5.sub (by decide))
              have hh : Fr [412, 413, 414] V1 V5 := by
                intro a ha
                by_cases e : a = 406
                · rw [e, e5, e6]
                · exact F45 a (by simp only [List.mem_cons, List.not_mem_nil, or_false] at ha ⊢; omega)
              exact hh.cor (by decide)
            have hQ := hq V5 (by rw [F5.at_ 405 (by decide), F4.at_ 405 (by decide)]; exact t1) C5
            rw [← hg.eq.1, ← hg.eq.2, ← b1, ← b2] at hQ
            refine ⟨fun h7 => ?_, fun h7 => ?_⟩
            · rw [if_pos h7] at hQ; exact hQ
            · rw [if_neg h7] at hQ; exact hQ
        | succ n ih =>
          intro c f l i4 V4 v9 hc F4 hw4 h414 hb
          refine u_62_103 ⟨fun h7 => by omega, fun _ => m_hung (q := p) r5 (by omega) hws.1 hw4 (fun V5 e5 F5 => u_62_120 ?_)⟩
          rw [wsN_nd hW hr]
          have e3 : cdR p r c 3 = p 3 := cdR_n (by omega)
          refine m_mid (by rw [e5]; exact cdR_WF hW r5) (by rw [e5, e3]; exact hr) ?_
          rw [e5]
          intro V6 h6' F6
          have F46 : Fr [412, 413, 414, 406] V1 V6 := F4.tr ((F5.sub (by decide)).tr (F6.sub (by decide)))
          have hw6 : wlE p (V6 406) r := by rw [F6.at_ 406 (by decide), e5]; exact fun k hk => cdR_n hk
          have g414 : ∀ t, t < 64 → V6 414 t = hearM p o t := fun t ht => by rw [F6.at_ 414 (by decide), F5.at_ 414 (by decide)]; exact h414 t ht
          have nd4 : ndF p r c ≤ 4 := by unfold ndF; (repeat' split) <;> omega
          refine u_62_127 ⟨fun h7 => ?_, fun h7 => m_isAs (f := hearM p o) (g := hearM (cdR p r c) r) g414 h6' ?_⟩
          · rw [wr_id (x := (c : Int) + 1) (by omega) (by omega)]
            refine ih (c + 1) f l _ V6 _ (by omega) F46 hw6 g414 ?_
            rcases hb with ⟨b1, b2, b3⟩ | ⟨l', k, b1, b2, b3, b4, b5, b6⟩
            · omega
            · refine Or.inr ⟨l', k, b1, b2, by omega, b4, b5, fun c' hc' hm' => ?_⟩
              by_cases e : c' = c
              · subst e; omega
              · exact b6 c' (by omega) hm'
          · have em : eqT (hearM p o) (hearM (cdR p r c) r) 64 = mtB p r o c := eqT_sym
            rw [em]
            cases hm : mtB p r o c with
            | true =>
              refine u_62_140 ⟨fun _ => ?_, fun h8 => absurd h8 (by decide)⟩
              rw [wr_id (x := (c : Int) + 1) (by omega) (by omega)]
              refine ih (c + 1) _ _ _ V6 _ (by omega) F46 hw6 g414 (Or.inr ⟨ndF p r c, c, rfl, rfl, by omega, hm, rfl, fun c' hc' hm' => ?_⟩)
              by_cases e : c' = c
              · subst e; omega
              · rcases hb with ⟨b1, b2, b3⟩ | ⟨l', k, b1, b2, b3, b4, b5, b6⟩
                · rw [b3 c' (by omega)] at hm'; cases hm'
                · have := b6 c' (by omega) hm'; omega
            | false =>
              refine u_62_140 ⟨fun h8 => absurd rfl h8, fun _ => ?_⟩
              rw [wr_id (x := (c : Int) + 1) (by omega) (by omega)]
              refine ih (c + 1) f l _ V6 _ (by omega) F46 hw6 g414 ?_
              rcases hb with ⟨b1, b2, b3⟩ | ⟨l', k, b1, b2, b3, b4, b5, b6⟩
              · refine Or.inl ⟨b1, b2, fun c' hc' => ?_⟩
                by_cases e : c' = c
                · subst e; exact hm
                · exact b3 c' (by omega)
              · refine Or.inr ⟨l', k, b1, b2, by omega, b4, b5, fun c' hc' hm' => ?_⟩
                by_cases e : c' = c
                · subst e; rw [hm] at hm'; cases hm'
                · exact b6 c' (by omega) hm'
      exact main 625 0 (-1) 2000000000 _ V3 _ (by omega) FL (by rw [e63]; exact fun _ _ => rfl) h414 (Or.inl ⟨rfl, rfl, fun c' hc' => by omega⟩)
    · simp only [if_neg (fun hc : rW p r = rW p o ∧ rD p r = rD p o => h6 hc.2)] at hq; exact hq V1 t1 Cor.rf
  · rw [aTwo_n h2] at h
    exact u_62_6 ⟨fun h5 => by omega, fun _ => h V1 t1 C1⟩
  · rw [aTwo_e h2 he] at h
    exact u_62_6 ⟨fun h5 => by omega, fun _ => h V1 t1 C1⟩
end HANGS2
