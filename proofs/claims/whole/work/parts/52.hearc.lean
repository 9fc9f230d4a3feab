/-! ===== THE CLASS HEARS ===== -/
section HEARC
variable {d : Nat} {V : xF} {D : yD} {Q : xRes → xF → yD → Prop}
/-- rows of a reply -/
def isRep (q : Nat) : Prop := q = 253 ∨ q = 391 ∨ (258 ≤ q ∧ q < 379) ∨ (384 ≤ q ∧ q < 389)
theorem yK_lt {q : Nat} (kd : Nat → Nat × Nat) (h : q < 421) (h1 : q ≠ 1) : yK kd q = yK0 q := by
  have e1 : Nat.blt q 421 = true := Nat.ble_eq_true_of_le h
  have e2 : Nat.beq q 1 = false := by
    cases hb : Nat.beq q 1 with
    | false => rfl
    | true => exact absurd (Nat.eq_of_beq_eq_true hb) h1
  unfold yK
  rw [e1, e2]
theorem rep_K {q : Nat} (h : isRep q) (kd : Nat → Nat × Nat) : yK kd q = (20, 48) := by
  have h0 : q < 421 ∧ q ≠ 1 := by unfold isRep at h; omega
  rw [yK_lt kd h0.1 h0.2]
  have b1 : (List.range 121).all (fun n => yK0 (258 + n) == (20, 48)) = true := by decide +kernel
  have b2 : (List.range 5).all (fun n => yK0 (384 + n) == (20, 48)) = true := by decide +kernel
  rcases h with h | h | h | h
  · subst h; rfl
  · subst h; rfl
  · have := List.all_eq_true.mp b1 (q - 258) (List.mem_range.mpr (by omega))
    rw [show 258 + (q - 258) = q by omega] at this
    simpa using this
  · have := List.all_eq_true.mp b2 (q - 384) (List.mem_range.mpr (by omega))
    rw [show 384 + (q - 384) = q by omega] at this
    simpa using this
/-- a row filled with a number -/
theorem c_fill {q n : Nat} {z : Int} (hq : q ≠ 0) (hK : yK D.2.2.1 q = (20, n)) (hn : n < 100000)
    (h : ∀ V', (∀ t, t < n → V' q t = z) → Fr [q] V V' → Q (.inl none) V' D) : RY d 286 0 [vr q, vi z, vr 0, vr 0] [] V D Q := by
  refine u_286_0 ⟨hq, by rw [hK]; exact ⟨Nat.le_refl _, by omega⟩, ?_⟩
  rw [hK]
  have main : ∀ (m k : Nat) (V1 : xF), k + m = n → (∀ t, t < k → V1 q t = z) → Fr [q] V V1 → RY d 286 5 [vr q, vi z, vi (k : Int), vi (n : Int)] [] V1 D Q := by
    intro m
    induction m with
    | zero =>
      intro k V1 hk h1 h2
      exact u_286_5 ⟨fun _ => h V1 (fun t ht => h1 t (by omega)) h2, fun h5 => by omega⟩
    | succ m ih =>
      intro k V1 hk h1 h2
      refine u_286_5 ⟨fun h5 => by omega, fun _ => ⟨hq, by rw [hK], by rw [hK]; dsimp only; omega, ?_⟩⟩
      rintro V2 rfl
      rw [wr_id (by omega) (by omega), nn_toNat]
      refine ih (k + 1) _ (by omega) ?_ (h2.tr (Fr.up (by simp)))
      intro t ht
      rw [up2_a]
      split
      · rfl
      · exact h1 t (by omega)
  exact main n 0 V (by omega) (fun t ht => by omega) Fr.rf
theorem yr345 {i : Int} (h1 : -3 ≤ i) (h2 : i ≤ 3) : yr_345 i V D = (loN i : Int) := by
  rcases i7 h1 h2 with h | h | h | h | h | h | h <;> subst h <;> rfl
theorem yr347 {i : Int} (h1 : -3 ≤ i) (h2 : i ≤ 3) : yr_347 i V D = (hiN i : Int) := by
  rcases i7 h1 h2 with h | h | h | h | h | h | h <;> subst h <;> rfl
theorem yr343 {i z p : Int} (h1 : -3 ≤ i) (h2 : i ≤ 3) (hz : 2 ≤ z ∧ z ≤ 12) (hp : 1 ≤ p ∧ p < z) : yr_343 i z p V D = ofs i z p := by
  by_cases h : i.tmod 2 = 0
  · have := yr322_0 (V := V) (D := D) h (ofs_b h1 h2 hz hp).1
    unfold yr_322 at this
    unfold yr_343
    rw [if_pos h]
    rw [if_pos rfl] at this
    exact this
  · have := yr322_1 (V := V) (D := D) h ⟨h1, h2⟩ hz hp
    unfold yr_322 at this
    unfold yr_343
    rw [if_neg h]
    rw [if_neg (by omega)] at this
    exact this
/-- a loudness, off one wall -/
theorem c_bounce {l s : Int} {n : Nat} (hl : 0 ≤ l ∧ l ≤ 1000) (hn : n ≤ 3) (h0 : V 254 7 = l)
    (h : ∀ V', V' 254 7 = dul l s n → (∀ k, k ≠ 7 → V' 254 k = V 254 k) → Fr [254] V V' → Q (.inl none) V' D) : RY d 346 0 [vr 254, vi (n : Int), vi (gvs s), vr 0] [] V D Q := by
  refine u_346_0 ?_
  have main : ∀ (k m : Nat) (z : Int) (V1 : xF), 0 ≤ z ∧ z ≤ 1000 → m + k = n → dul z s k = dul l s n → V1 254 7 = z → (∀ k, k ≠ 7 → V1 254 k = V 254 k) → Fr [254] V V1 → RY d 346 2 [vr 254, vi (n : Int), vi (gvs s), vi (m : Int)] [] V1 D Q := by
    intro k
    induction k with
    | zero =>
      intro m z V1 hz hm he h1 h2 h3
      refine u_346_2 ⟨fun _ => h V1 (by rw [h1, ← he]; rfl) h2 h3, fun h1 => by omega⟩
    | succ k ih =>
      intro m z V1 hz hm he h1 h2 h3
      refine u_346_2 ⟨fun h1 => by omega, fun _ => ?_⟩
      rintro V2 rfl
      have g := gvs_b s
      have h4 : 0 ≤ z * gvs s := Int.mul_nonneg hz.1 g.1
      have h5 : z * gvs s ≤ z * 9 := Int.mul_le_mul_of_nonneg_left g.2 hz.1
      rw [h1, wr_id (x := z * gvs s) (by omega) (by omega), tdiv_nn h4, wr_id (x := z * gvs s / 10) (by omega) (by omega), wr_id (by omega) (by omega)]
      refine ih (m + 1) (z * gvs s / 10) _ ⟨by omega, by omega⟩ (by omega) he (up2_at _ _ _ _) ?_ (h3.tr (Fr.up (by decide)))
      intro k hk
      rw [up2_ni hk]
      exact h2 k hk
  exact main n 0 l V hl (by omega) rfl h0 (fun _ _ => rfl) Fr.rf
/-- the root, rounded down -/
theorem c_length {a b : Int} (h6 : -46 ≤ a ∧ a ≤ 46) (h7 : -46 ≤ b ∧ b ≤ 46) (h8 : 4 ≤ a * a + b * b) (h9 : a * a + b * b < 2304)
    (h : Q (.inl (some (vi (sqr (a * a + b * b))))) V D) : RY d 344 0 [vi a, vi b, vr 0, vr 0] [] V D Q := by
  have a6 := sq_le h6.1 h6.2
  have a7 := sq_le h7.1 h7.2
  have e : wr (wr (a * a) + wr (b * b)) = a * a + b * b := by
    rw [wr_id (x := a * a) (by omega) (by omega), wr_id (x := b * b) (by omega) (by omega), wr_id (by omega) (by omega)]
  refine u_344_0 ?_
  rw [e]
  have main : ∀ (n : Nat) (t : Int), 0 ≤ t → t * t ≤ a * a + b * b → t ≤ 47 → t + n = 47 → RY d 344 24 [vi a, vi b, vi (a * a + b * b), vi t] [] V D Q := by
    intro n
    induction n with
    | zero =>
      intro t h0 h1 h2 h3
      have : t = 47 := by omega
      subst this
      refine u_344_24 ⟨fun _ => ?_, fun h5 => by omega⟩
      rw [← sqr_is (q := a * a + b * b) (a := 47) (by omega) (by omega) (by omega) (by omega) (by omega)] at h
      exact h
    | succ n ih =>
      intro t h0 h1 h2 h3
      have hb := sq_le (x := t + 1) (m := 67) (by omega) (by omega)
      have e1 : wr (t + 1) = t + 1 := wr_id (by omega) (by omega)
      have e2 : wr (wr (t + 1) * wr (t + 1)) = (t + 1) * (t + 1) := by rw [e1, wr_id (by omega) (by omega)]
      refine u_344_24 ⟨fun h5 => by omega, fun _ => ⟨fun h5 => ?_, fun h5 => ?_⟩⟩
      · rw [e2] at h5
        have := sqr_is (q := a * a + b * b) (by omega) (by omega) h0 h1 h5
        unfold yr_291
        rw [if_neg (by omega), this]
        exact h
      · rw [e2] at h5
        rw [e1]
        exact ih (t + 1) (by omega) h5 (by omega) (by omega)
  have hm : 0 ≤ yr_292 2 (yr_292 (yr_288 a V D) (yr_288 b V D) V D) V D ∧ yr_292 2 (yr_292 (yr_288 a V D) (yr_288 b V D) V D) V D ≤ 47 ∧ yr_292 2 (yr_292 (yr_288 a V D) (yr_288 b V D) V D) V D * yr_292 2 (yr_292 (yr_288 a V D) (yr_288 b V D) V D) V D ≤ a * a + b * b := by
    have n1 : (-a) * (-a) = a * a := Int.neg_mul_neg a a
    have n2 : (-b) * (-b) = b * b := Int.neg_mul_neg b b
    have w1 : wr (-a) = -a := wr_id (by omega) (by omega)
    have w2 : wr (-b) = -b := wr_id (by omega) (by omega)
    unfold yr_292 yr_288
    rw [w1, w2]
    (repeat' split) <;> refine ⟨by omega, by omega, ?_⟩ <;> omega
  exact main (47 - yr_292 2 (yr_292 (yr_288 a V D) (yr_288 b V D) V D) V D).toNat _ hm.1 hm.2.2 hm.2.1 (by omega)
/-- an image is measured -/
theorem c_measure {p : Rw} {r : Nat} {x y i j : Int} (hI : isIm p r x y i j) (h0 : V 254 0 = rW p r) (h1 : V 254 1 = rD p r) (h2 : V 254 2 = x) (h3 : V 254 3 = y) (h5 : V 254 5 = p 9) (hb : ∀ w, w < 4 → V 255 w = gvs (rS p r w))
    (h : ∀ V', V' 254 6 = imT p r x y i j → V' 254 7 = imL p r x y i j → (∀ k, k ≠ 6 → k ≠ 7 → V' 254 k = V 254 k) → Fr [254] V V' → Q (.inl none) V' D) :
    RY d 289 0 [vr 254, vi i, vi j, vr 0, vr 0] [] V D Q := by
  have hI' := hI
  obtain ⟨hw, hd, hx, hy, h33, h00⟩ := hI'
  have hi : -3 ≤ i ∧ i ≤ 3 := by omega
  have hj : -3 ≤ j ∧ j ≤ 3 := by omega
  have hq := im_q hI
  have hT := im_t hI
  have li := lohi hi.1 hi.2
  have lj := lohi hj.1 hj.2
  refine u_289_0 ?_
  rw [h0, h1, h2, h3, yr343 hi.1 hi.2 hw hx, yr343 hj.1 hj.2 hd hy]
  refine c_length hq.1 hq.2.1 hq.2.2.1 hq.2.2.2 ?_
  refine u_289_34 ?_
  rintro V1 rfl V2 rfl
  rw [yr345 hi.1 hi.2]
  have e0 : (up2 (up2 V 254 6 (imT p r x y i j)) 254 7 1000) 255 0 = gvs (rS p r 0) := by rw [up2_na (by decide), up2_na (by decide)]; exact hb 0 (by omega)
  have f0 : Fr [254] V (up2 (up2 V 254 6 (imT p r x y i j)) 254 7 1000) := (Fr.up (by decide)).tr (Fr.up (by decide))
  have g6 : (up2 (up2 V 254 6 (imT p r x y i j)) 254 7 1000) 254 6 = imT p r x y i j := by rw [up2_ni (by decide), up2_at]
  have gk : ∀ k, k ≠ 6 → k ≠ 7 → (up2 (up2 V 254 6 (imT p r x y i j)) 254 7 1000) 254 k = V 254 k := by
    intro k k6 k7
    rw [up2_ni k7, up2_ni k6]
  have g7 : (up2 (up2 V 254 6 (imT p r x y i j)) 254 7 1000) 254 7 = 1000 := up2_at _ _ _ _
  revert e0 f0 g6 gk g7
  show _ → _ → _ → _ → _ → RY d 346 0 [vr 254, vi (loN i : Int), vi ((up2 (up2 V 254 6 (imT p r x y i j)) 254 7 1000) 255 0), vr 0] [] (up2 (up2 V 254 6 (imT p r x y i j)) 254 7 1000) D _
  generalize (up2 (up2 V 254 6 (imT p r x y i j)) 254 7 1000) = W
  intro e0 f0 g6 gk g7
  rw [e0]
  refine c_bounce ⟨by omega, by omega⟩ (by omega) g7 ?_
  intro W1 a7 ak aF
  have b1 := dul_b (s := rS p r 0) (loN i) (l := 1000) ⟨by omega, by omega⟩
  refine u_289_58 ?_
  rw [yr347 hi.1 hi.2, show W1 255 1 = gvs (rS p r 1) by rw [aF.at_ 255 (by decide), f0.at_ 255 (by decide)]; exact hb 1 (by omega)]
  refine c_bounce b1 (by omega) a7 ?_
  intro W2 b7 bk bF
  have b2 := dul_b (s := rS p r 1) (hiN i) b1
  refine u_289_72 ?_
  rw [yr345 hj.1 hj.2, show W2 255 2 = gvs (rS p r 2) by rw [bF.at_ 255 (by decide), aF.at_ 255 (by decide), f0.at_ 255 (by decide)]; exact hb 2 (by omega)]
  refine c_bounce b2 (by omega) b7 ?_
  intro W3 c7 ck cF
  have b3 := dul_b (s := rS p r 2) (loN j) b2
  refine u_289_86 ?_
  rw [yr347 hj.1 hj.2, show W3 255 3 = gvs (rS p r 3) by rw [cF.at_ 255 (by decide), bF.at_ 255 (by decide), aF.at_ 255 (by decide), f0.at_ 255 (by decide)]; exact hb 3 (by omega)]
  refine c_bounce b3 (by omega) c7 ?_
  intro W4 d7 dk dF
  have b4 := im3_b p r i j
  have b5 := div_b b4 hT.1
  have w6 : W4 254 6 = imT p r x y i j := by rw [dk 6 (by decide), ck 6 (by decide), bk 6 (by decide), ak 6 (by decide)]; exact g6
  have wk : ∀ k, k ≠ 6 → k ≠ 7 → W4 254 k = V 254 k := fun k k6 k7 => by rw [dk k k7, ck k k7, bk k k7, ak k k7]; exact gk k k6 k7
  have w7 : W4 254 7 = im3 p r i j := d7
  have wF : Fr [254] V W4 := (((f0.tr aF).tr bF).tr cF).tr dF
  have e4 : wr ((im3 p r i j).tdiv (imT p r x y i j)) = im3 p r i j / imT p r x y i j := by
    rw [tdiv_nn b4.1, wr_id (by omega) (by omega)]
  have e5 : wr ((im3 p r i j / imT p r x y i j).tdiv 2) = im3 p r i j / imT p r x y i j / 2 := by
    rw [tdiv_nn b5.1, wr_id (by omega) (by omega)]
  refine u_289_100 ⟨by rw [w6]; omega, ?_⟩
  rw [w6, w7, e4]
  rintro V1 rfl
  have x5 : (up2 W4 254 7 (im3 p r i j / imT p r x y i j)) 254 5 = p 9 := by rw [up2_ni (by decide), wk 5 (by decide) (by decide)]; exact h5
  have x7 : (up2 W4 254 7 (im3 p r i j / imT p r x y i j)) 254 7 = im3 p r i j / imT p r x y i j := up2_at _ _ _ _
  rw [x5, x7, e5]
  have no : ¬ ((p 9 = 1 ∧ ofs i (rW p r) x < 0) ∨ (p 9 = 2 ∧ 0 < ofs i (rW p r) x)) → Q (.inl none) (up2 W4 254 7 (im3 p r i j / imT p r x y i j)) D := by
    intro hc
    refine h _ (by rw [up2_ni (by decide)]; exact w6) (by rw [imL_eq, if_neg hc, up2_at]) ?_ (wF.tr (Fr.up (by decide)))
    intro k k6 k7
    rw [up2_ni k7]
    exact wk k k6 k7
  have yes : ((p 9 = 1 ∧ ofs i (rW p r) x < 0) ∨ (p 9 = 2 ∧ 0 < ofs i (rW p r) x)) → ∀ V2, V2 = up2 (up2 W4 254 7 (im3 p r i j / imT p r x y i j)) 254 7 (im3 p r i j / imT p r x y i j / 2) → Q (.inl none) V2 D := by
    rintro hc V2 rfl
    refine h _ (by rw [up2_ni (by decide), up2_ni (by decide)]; exact w6) (by rw [imL_eq, if_pos hc, up2_at]) ?_ ((wF.tr (Fr.up (by decide))).tr (Fr.up (by decide)))
    intro k k6 k7
    rw [up2_ni k7, up2_ni k7]
    exact wk k k6 k7
  refine ⟨fun a1 => ⟨fun a2 => no (by omega), fun a2 => ⟨fun a3 => no (by omega), fun a3 => yes (Or.inr ⟨a2, a3⟩)⟩⟩, fun a1 => ⟨fun a2 => yes (Or.inl ⟨a1, a2⟩), fun a2 => ⟨fun a3 => no (by omega), fun a3 => ⟨fun a4 => no (by omega), fun a4 => yes (Or.inr ⟨a3, a4⟩)⟩⟩⟩⟩
/-- what a list of images has added to a reply -/
def AccC (p : Rw) (r : Nat) (x y : Int) (q : Nat) (l : List (Int × Int)) (V V' : xF) : Prop :=
  (∀ t, V' q t = l.foldl (acL p r x y t) (V q t)) ∧ (∀ k, k ≠ 6 → k ≠ 7 → V' 254 k = V 254 k) ∧ Fr [254, q] V V'
theorem AccC.app {p : Rw} {r : Nat} {x y : Int} {q : Nat} {l l' : List (Int × Int)} {V V' V2 : xF} (h : AccC p r x y q l V V') (h' : AccC p r x y q l' V' V2) : AccC p r x y q (l ++ l') V V2 :=
  ⟨fun t => by rw [h'.1, h.1, List.foldl_append], fun k k6 k7 => (h'.2.1 k k6 k7).trans (h.2.1 k k6 k7), h.2.2.tr h'.2.2⟩
/-- where it stands -/
def Stands (p : Rw) (r : Nat) (x y : Int) (V : xF) : Prop := V 254 0 = rW p r ∧ V 254 1 = rD p r ∧ V 254 2 = x ∧ V 254 3 = y ∧ V 254 5 = p 9 ∧ ∀ w, w < 4 → V 255 w = gvs (rS p r w)
theorem AccC.stands {p p' : Rw} {r r' : Nat} {x x' y y' : Int} {q : Nat} {l : List (Int × Int)} {V V' : xF} (h : AccC p' r' x' y' q l V V') (hq : isRep q) (hs : Stands p r x y V) : Stands p r x y V' := by
  obtain ⟨a, b, c, e, f, g⟩ := hs
  have e5 : V' 255 = V 255 := h.2.2.at_ 255 (by unfold isRep at hq; simp; omega)
  refine ⟨?_, ?_, ?_, ?_, ?_, fun w hw => by rw [e5]; exact g w hw⟩
  all_goals (rw [h.2.1 _ (by decide) (by decide)]; assumption)
theorem c_4rk {r k : Nat} (hr : r < 5) (hk : k < 4) : wr (wr (4 * (r : Int)) + (k : Int)) = ((4 * r + k : Nat) : Int) := by
  rw [wr_id (x := 4 * (r : Int)) (by omega) (by omega), wr_id (by omega) (by omega)]
  omega
theorem xb_gvs {z : Int} (h : 0 ≤ z ∧ z ≤ 4) : xback5 z.toNat = gvs z := by
  have : z = 0 ∨ z = 1 ∨ z = 2 ∨ z = 3 ∨ z = 4 := by omega
  rcases this with h | h | h | h | h <;> subst h <;> rfl
theorem c_stand_81 {p : Rw} {r : Nat} {x y : Int} (hS : St V 81 p) (hB : V 2 = xback5) (hW : WF p) (hr : (r : Int) < p 3) (hP : isPl p r x y)
    (h : ∀ V', Stands p r x y V' → Fr [254, 255] V V' → Q (.inl none) V' D) : RY d 287 0 [vr 254, vr 81, vi (r : Int), vi (16 * x + y), vr 0] [] V D Q := by
  obtain ⟨hr5, hrw, hrd⟩ := hW.room hr
  have hso := (hW.2.2.2.2.2.2.2.2.2.2.2.1 r hr).2.2.1
  obtain ⟨hP1, hP2⟩ := hP
  obtain ⟨-, hw, hd, hs, -, -, -, -, -, -, -, -, -, -, h9, -⟩ := hS
  refine u_287_0_81 ⟨by omega, ?_⟩
  rintro V1 rfl
  refine ⟨by omega, ?_⟩
  rintro V2 rfl V3 rfl V4 rfl V5 rfl
  have ex : wr ((16 * x + y).tdiv 16) = x := by rw [tdiv_nn (by omega), wr_id (by omega) (by omega)]; omega
  have ey : (16 * x + y).tmod 16 = y := by rw [tmod_nn (by omega)]; omega
  rw [ex, ey, nn_toNat]
  have main : ∀ (n k : Nat) (V1 : xF), k + n = 4 → (∀ w, w < k → V1 255 w = gvs (rS p r w)) → V1 254 0 = rW p r → V1 254 1 = rD p r → V1 254 2 = x → V1 254 3 = y → V1 254 5 = p 9 → Fr [254, 255] V V1 → RY d 287 47 [vr 254, vr 81, vi (r : Int), vi (16 * x + y), vi (k : Int)] [] V1 D Q := by
    intro n
    induction n with
    | zero =>
      intro k V1 hk h1 a0 a1 a2 a3 a5 hF
      refine u_287_47_81 ⟨fun _ => h V1 ⟨a0, a1, a2, a3, a5, fun w hw => h1 w (by omega)⟩ hF, fun h5 => by omega⟩
    | succ n ih =>
      intro k V1 hk h1 a0 a1 a2 a3 a5 hF
      have hk4 : k < 4 := by omega
      have e2 : V1 84 (4 * r + k) = rS p r k := by rw [hF.at_ 84 (by decide)]; exact hs r k hr5 hk4
      have e3 := hso k hk4
      refine u_287_47_81 ⟨fun h5 => by omega, fun _ => ?_⟩
      rw [c_4rk hr5 hk4, nn_toNat, e2]
      refine ⟨by omega, by omega, by omega, ?_⟩
      rintro V2 rfl
      rw [nn_toNat, hF.at_ 2 (by decide), hB, wr_id (x := (k : Int) + 1) (by omega) (by omega)]
      rw [xb_gvs e3]
      refine ih (k + 1) _ (by omega) ?_ (by rw [up2_na (by decide)]; exact a0) (by rw [up2_na (by decide)]; exact a1) (by rw [up2_na (by decide)]; exact a2) (by rw [up2_na (by decide)]; exact a3) (by rw [up2_na (by decide)]; exact a5) (hF.tr (Fr.up (by decide)))
      intro w hw
      rw [up2_a]
      by_cases h7 : w = k
      · subst h7; rw [if_pos rfl]
      · rw [if_neg h7]; exact h1 w (by omega)
  refine main 4 0 _ (by omega) (fun w hw => by omega) ?_ ?_ ?_ ?_ ?_ ?_
  · rw [up2_ni (by decide), up2_ni (by decide), up2_ni (by decide), up2_ni (by decide), up2_at]
    exact hw r hr5
  · rw [up2_ni (by decide), up2_ni (by decide), up2_ni (by decide), up2_at, up2_na (by decide)]
    exact hd r hr5
  · rw [up2_ni (by decide), up2_ni (by decide), up2_at]
  · rw [up2_ni (by decide), up2_at]
  · rw [up2_at, up2_na (by decide), up2_na (by decide), up2_na (by decide), up2_na (by decide)]
    exact h9
  · exact ((((Fr.up (by decide)).tr (Fr.up (by decide))).tr (Fr.up (by decide))).tr (Fr.up (by decide))).tr (Fr.up (by decide))
theorem c_stand_92 {p : Rw} {r : Nat} {x y : Int} (hS : St V 92 p) (hB : V 2 = xback5) (hW : WF p) (hr : (r : Int) < p 3) (hP : isPl p r x y)
    (h : ∀ V', Stands p r x y V' → Fr [254, 255] V V' → Q (.inl none) V' D) : RY d 287 0 [vr 254, vr 92, vi (r : Int), vi (16 * x + y), vr 0] [] V D Q := by
  obtain ⟨hr5, hrw, hrd⟩ := hW.room hr
  have hso := (hW.2.2.2.2.2.2.2.2.2.2.2.1 r hr).2.2.1
  obtain ⟨hP1, hP2⟩ := hP
  obtain ⟨-, hw, hd, hs, -, -, -, -, -, -, -, -, -, -, h9, -⟩ := hS
  refine u_287_0_92 ⟨by omega, ?_⟩
  rintro V1 rfl
  refine ⟨by omega, ?_⟩
  rintro V2 rfl V3 rfl V4 rfl V5 rfl
  have ex : wr ((16 * x + y).tdiv 16) = x := by rw [tdiv_nn (by omega), wr_id (by omega) (by omega)]; omega
  have ey : (16 * x + y).tmod 16 = y := by rw [tmod_nn (by omega)]; omega
  rw [ex, ey, nn_toNat]
  have main : ∀ (n k : Nat) (V1 : xF), k + n = 4 → (∀ w, w < k → V1 255 w = gvs (rS p r w)) → V1 254 0 = rW p r → V1 254 1 = rD p r → V1 254 2 = x → V1 254 3 = y → V1 254 5 = p 9 → Fr [254, 255] V V1 → RY d 287 47 [vr 254, vr 92, vi (r : Int), vi (16 * x + y), vi (k : Int)] [] V1 D Q := by
    intro n
    induction n with
    | zero =>
      intro k V1 hk h1 a0 a1 a2 a3 a5 hF
      refine u_287_47_92 ⟨fun _ => h V1 ⟨a0, a1, a2, a3, a5, fun w hw => h1 w (by omega)⟩ hF, fun h5 => by omega⟩
    | succ n ih =>
      intro k V1 hk h1 a0 a1 a2 a3 a5 hF
      have hk4 : k < 4 := by omega
      have e2 : V1 95 (4 * r + k) = rS p r k := by rw [hF.at_ 95 (by decide)]; exact hs r k hr5 hk4
      have e3 := hso k hk4
      refine u_287_47_92 ⟨fun h5 => by omega, fun _ => ?_⟩
      rw [c_4rk hr5 hk4, nn_toNat, e2]
      refine ⟨by omega, by omega, by omega, ?_⟩
      rintro V2 rfl
      rw [nn_toNat, hF.at_ 2 (by decide), hB, wr_id (x := (k : Int) + 1) (by omega) (by omega)]
      rw [xb_gvs e3]
      refine ih (k + 1) _ (by omega) ?_ (by rw [up2_na (by decide)]; exact a0) (by rw [up2_na (by decide)]; exact a1) (by rw [up2_na (by decide)]; exact a2) (by rw [up2_na (by decide)]; exact a3) (by rw [up2_na (by decide)]; exact a5) (hF.tr (Fr.up (by decide)))
      intro w hw
      rw [up2_a]
      by_cases h7 : w = k
      · subst h7; rw [if_pos rfl]
      · rw [if_neg h7]; exact h1 w (by omega)
  refine main 4 0 _ (by omega) (fun w hw => by omega) ?_ ?_ ?_ ?_ ?_ ?_
  · rw [up2_ni (by decide), up2_ni (by decide), up2_ni (by decide), up2_ni (by decide), up2_at]
    exact hw r hr5
  · rw [up2_ni (by decide), up2_ni (by decide), up2_ni (by decide), up2_at, up2_na (by decide)]
    exact hd r hr5
  · rw [up2_ni (by decide), up2_ni (by decide), up2_at]
  · rw [up2_ni (by decide), up2_at]
  · rw [up2_at, up2_na (by decide), up2_na (by decide), up2_na (by decide), up2_na (by decide)]
    exact h9
  · exact ((((Fr.up (by decide)).tr (Fr.up (by decide))).tr (Fr.up (by decide))).tr (Fr.up (by decide))).tr (Fr.up (by decide))
theorem rep_ne {q : Nat} (h : isRep q) : q ≠ 0 ∧ q ≠ 254 ∧ q ≠ 255 ∧ q ≠ 2 ∧ (q < 81 ∨ 102 < q) := by unfold isRep at h; omega
theorem yr288 {i : Int} (h1 : -3 ≤ i) (h2 : i ≤ 3) : yr_288 i V D = (i.natAbs : Int) := by
  rcases i7 h1 h2 with h | h | h | h | h | h | h <;> subst h <;> rfl
theorem yr329 {i : Int} (h1 : -3 ≤ i) (h2 : i ≤ 3) : yr_329 i V D = (if 0 < loN i then 1 else 0) + (if 0 < hiN i then 2 else 0) := by
  rcases i7 h1 h2 with h | h | h | h | h | h | h <;> subst h <;> rfl
theorem imW_xor {i j : Int} (hi : -3 ≤ i ∧ i ≤ 3) (hj : -3 ≤ j ∧ j ≤ 3) : xor_ (yr_329 i V D) (xshl (yr_329 j V D) 2) = imW i j := by
  rw [yr329 hi.1 hi.2, yr329 hj.1 hj.2]
  rcases i7 hi.1 hi.2 with h | h | h | h | h | h | h <;> subst h <;> rcases i7 hj.1 hj.2 with h | h | h | h | h | h | h <;> subst h <;> decide +kernel
/-- what a clap at a place hears, by times: into a row of 48 -/
def hearC (p : Rw) (r : Nat) (x y : Int) (q : Nat) (V V' : xF) : Prop := (∀ t, t < 48 → V' q t = hearT p r x y t) ∧ Fr [254, 255, q] V V'
set_option maxHeartbeats 1000000 in
theorem c_inner_81 {p : Rw} {r q : Nat} {x y i : Int} {i3 : Int} (hq : isRep q) (hb10 : V 81 16 = p 10) (hR : rOK p r) (hP : isPl p r x y) (hb : 1 ≤ p 10 ∧ p 10 ≤ 3) (hi : i.natAbs ≤ p 10) :
    ∀ (n : Nat) (j : Int) (V1 : xF), Stands p r x y V1 → j + n = (p 10 - (i.natAbs : Int)) + 1 → -(p 10 - (i.natAbs : Int)) ≤ j →
      (∀ V', AccC p r x y q (((upl j n).filter (fun j => decide (i ≠ 0 ∨ j ≠ 0))).map (fun j => (i, j))) V1 V' → ∀ u, RY d 212 20 [vr 254, vr 81, vi (r : Int), vi i3, vr q, vi (wr (i + 1)), vi (p 10 - (i.natAbs : Int)), vi u] [] V' D Q) →
      RY d 212 46 [vr 254, vr 81, vi (r : Int), vi i3, vr q, vi i, vi (p 10 - (i.natAbs : Int)), vi j] [] V1 D Q := by
  have hqn := rep_ne hq
  intro n
  induction n with
  | zero =>
    intro j V1 hV hj hlo h
    refine u_212_46_81 ⟨fun _ => ?_, fun h1 => by omega⟩
    exact h V1 ⟨fun t => rfl, fun _ _ _ => rfl, Fr.rf⟩ j
  | succ n ih =>
    intro j V1 hV hj hlo h
    have step : ∀ V', AccC p r x y q (if i ≠ 0 ∨ j ≠ 0 then [(i, j)] else []) V1 V' → RY d 212 46 [vr 254, vr 81, vi (r : Int), vi i3, vr q, vi i, vi (p 10 - (i.natAbs : Int)), vi (wr (j + 1))] [] V' D Q := by
      intro V' hA
      rw [wr_id (by omega) (by omega)]
      refine ih (j + 1) V' (hA.stands hq hV) (by omega) (by omega) ?_
      intro V2 h2 u
      refine h V2 ?_ u
      rw [imj_step (b := p 10)]
      exact hA.app h2
    have one : (i ≠ 0 ∨ j ≠ 0) → RY d 289 0 [vr 254, vi i, vi j, vr 0, vr 0] [] V1 D (yback d 212 71 [vr 254, vr 81, vi (r : Int), vi i3, vr q, vi i, vi (p 10 - (i.natAbs : Int)), vi j] [] Q) := by
      intro h0
      have hI : isIm p r x y i j := ⟨hR.2.1, hR.2.2, hP.1, hP.2, by omega, h0⟩
      obtain ⟨a0, a1, a2, a3, a5, ab⟩ := hV
      refine c_measure hI a0 a1 a2 a3 a5 ab ?_
      intro W w6 w7 wk wF
      have hT := im_t hI
      have hK := rep_K hq D.2.2.1
      refine u_212_71_81 ?_
      rw [w6, w7, hK]
      refine ⟨hqn.1, ⟨by omega, by omega⟩, ⟨by omega, by dsimp only; omega⟩, rfl, ⟨by omega, by dsimp only; omega⟩, ?_⟩
      rintro V' rfl
      refine step _ ?_
      rw [if_pos h0]
      refine ⟨?_, ?_, ?_⟩
      · intro t
        rw [up2_a]
        show _ = acL p r x y t (V1 q t) (i, j)
        have e1 : W q = V1 q := wF.at_ q (by simp; omega)
        rw [e1]
        unfold acL
        by_cases ht : t = (imT p r x y i j).toNat
        · rw [if_pos ht, if_pos (by dsimp only; omega), ht]
        · rw [if_neg ht, if_neg (by dsimp only; omega)]
      · intro k k6 k7
        rw [up2_na (by omega)]
        exact wk k k6 k7
      · exact (wF.sub (by simp)).tr (Fr.up (by simp))
    refine u_212_46_81 ⟨fun h1 => by omega, fun _ => ⟨fun h1 => one (Or.inl h1), fun h1 => ⟨fun h2 => ?_, fun h2 => one (Or.inr h2)⟩⟩⟩
    refine step V1 ?_
    rw [if_neg (by omega)]
    exact ⟨fun t => rfl, fun _ _ _ => rfl, Fr.rf⟩
set_option maxHeartbeats 1000000 in
theorem c_listen_81 {p : Rw} {r q : Nat} {x y : Int} (hS : St V 81 p) (hB : V 2 = xback5) (hW : WF p) (hr : (r : Int) < p 3) (hP : isPl p r x y) (hq : isRep q)
    (h : ∀ V', hearC p r x y q V V' → Q (.inl none) V' D) : RY d 212 0 [vr 254, vr 81, vi (r : Int), vi (16 * x + y), vr q, vr 0, vr 0, vr 0] [] V D Q := by
  have hR := hW.room hr
  have hb : 1 ≤ p 10 ∧ p 10 ≤ 3 := hW.2.2.2.2.1
  have hqn := rep_ne hq
  have hK := rep_K hq D.2.2.1
  have s16 : V 81 16 = p 10 := hS.2.2.2.2.2.2.2.2.2.2.2.2.2.2.2.1
  have s14 : V 81 14 = p 8 := hS.2.2.2.2.2.2.2.2.2.2.2.2.2.1
  refine u_212_0_81 ⟨hqn.1, ?_⟩
  refine c_fill hqn.1 hK (by omega) ?_
  intro V1 z1 F1
  have S1 : St V1 81 p := by
    have e : ∀ k, k ≤ 10 → V1 (81 + k) = V (81 + k) := fun k hk => F1.at_ _ (by simp; omega)
    unfold St
    rw [e 1 (by omega), e 2 (by omega), e 3 (by omega), e 4 (by omega), e 5 (by omega), e 6 (by omega), e 7 (by omega), e 8 (by omega), e 9 (by omega), e 10 (by omega), show V1 81 = V 81 from e 0 (by omega)]
    exact hS
  refine u_212_6_81 ?_
  refine c_stand_81 S1 (by rw [F1.at_ 2 (by simp; omega)]; exact hB) hW hr hP ?_
  intro V2 s2 F2
  have e16 : V2 81 16 = p 10 := by rw [F2.at_ 81 (by decide), F1.at_ 81 (by simp; omega)]; exact s16
  refine u_212_13_81 ?_
  rw [e16, wr_id (by omega) (by omega)]
  have outer : ∀ (n : Nat) (i : Int) (v6 v7 : xV) (V1 : xF), Stands p r x y V1 → V1 81 16 = p 10 → i + n = p 10 + 1 → -(p 10) ≤ i →
      (∀ V', AccC p r x y q ((upl i n).flatMap (imj (p 10))) V1 V' → ∀ u u', RY d 212 100 [vr 254, vr 81, vi (r : Int), vi (16 * x + y), vr q, vi 0, u, u'] [] V' D Q) →
      RY d 212 20 [vr 254, vr 81, vi (r : Int), vi (16 * x + y), vr q, vi i, v6, v7] [] V1 D Q := by
    intro n
    induction n with
    | zero =>
      intro i v6 v7 V1 h1 h16 h2 h3 h4
      refine u_212_20_81 ⟨fun _ => h4 V1 ⟨fun t => rfl, fun _ _ _ => rfl, Fr.rf⟩ v6 v7, fun h5 => by rw [h16] at h5; omega⟩
    | succ n ih =>
      intro i v6 v7 V1 h1 h16 h2 h3 h4
      have hi : i.natAbs ≤ p 10 := by omega
      refine u_212_20_81 ⟨fun h5 => by rw [h16] at h5; omega, fun _ => ?_⟩
      rw [h16, yr288 (by omega) (by omega), wr_id (x := p 10 - (i.natAbs : Int)) (by omega) (by omega), wr_id (by omega) (by omega)]
      refine c_inner_81 (V := V1) hq h16 hR hP hb hi (2 * (p 10 - (i.natAbs : Int)) + 1).toNat _ V1 h1 (by omega) (by omega) ?_
      intro V' hA u
      rw [wr_id (by omega) (by omega)]
      refine ih (i + 1) _ _ V' (hA.stands hq h1) (by rw [hA.2.2.at_ 81 (by simp; omega)]; exact h16) (by omega) (by omega) ?_
      intro V3 hA3 u u'
      refine h4 V3 ?_ u u'
      show AccC p r x y q ((i :: upl (i + 1) n).flatMap (imj (p 10))) V1 V3
      rw [List.flatMap_cons]
      exact hA.app hA3
  refine outer (2 * p 10 + 1).toNat (-(p 10)) _ _ V2 s2 e16 (by omega) (by omega) ?_
  intro V3 hA u u'
  have z3 : ∀ t, t < 48 → V3 q t = louds p r x y t := by
    intro t ht
    rw [hA.1, show V2 q = V1 q from F2.at_ q (by simp; omega), z1 t ht]
    rfl
  have F3 : Fr [254, 255, q] V V3 := ((F1.sub (by simp)).tr (F2.sub (by simp))).tr (hA.2.2.sub (by simp))
  have main : ∀ (n k : Nat) (V1 : xF), k + n = 48 → (∀ t, t < k → V1 q t = hearT p r x y t) → (∀ t, k ≤ t → t < 48 → V1 q t = louds p r x y t) → Fr [254, 255, q] V V1 → RY d 212 100 [vr 254, vr 81, vi (r : Int), vi (16 * x + y), vr q, vi (k : Int), u, u'] [] V1 D Q := by
    intro n
    induction n with
    | zero =>
      intro k V1 hk h1 h2 h3
      exact u_212_100_81 ⟨fun _ => h V1 ⟨fun t ht => h1 t (by omega), h3⟩, fun h5 => by omega⟩
    | succ n ih =>
      intro k V1 hk h1 h2 h3
      have e14 : V1 81 14 = p 8 := by rw [h3.at_ 81 (by simp; omega)]; exact s14
      have ek : V1 q k = louds p r x y k := h2 k (by omega) (by omega)
      refine u_212_100_81 ⟨fun h5 => by omega, fun _ => ?_⟩
      rw [hK, nn_toNat, e14, ek, wr_id (x := (k : Int) + 1) (by omega) (by omega)]
      refine ⟨hqn.1, ⟨by omega, by omega⟩, ⟨by omega, by dsimp only; omega⟩, fun h5 => ?_, fun h5 => ⟨hqn.1, rfl, ⟨by omega, by dsimp only; omega⟩, ?_⟩⟩
      · refine ih (k + 1) V1 (by omega) ?_ (fun t a b => h2 t (by omega) b) h3
        intro t ht
        by_cases h7 : t = k
        · subst h7
          rw [ek]
          unfold hearT
          rw [if_neg (by omega)]
        · exact h1 t (by omega)
      · rintro V4 rfl
        refine ih (k + 1) _ (by omega) ?_ ?_ (h3.tr (Fr.up (by simp)))
        · intro t ht
          rw [up2_a]
          by_cases h7 : t = k
          · subst h7
            rw [if_pos rfl]
            unfold hearT
            rw [if_pos h5]
          · rw [if_neg h7]
            exact h1 t (by omega)
        · intro t a b
          rw [up2_ni (by omega)]
          exact h2 t (by omega) b
  exact main 48 0 V3 (by omega) (fun t ht => by omega) (fun t _ ht => z3 t ht) F3
set_option maxHeartbeats 1000000 in
theorem c_inner_92 {p : Rw} {r q : Nat} {x y i : Int} {i3 : Int} (hq : isRep q) (hb10 : V 92 16 = p 10) (hR : rOK p r) (hP : isPl p r x y) (hb : 1 ≤ p 10 ∧ p 10 ≤ 3) (hi : i.natAbs ≤ p 10) :
    ∀ (n : Nat) (j : Int) (V1 : xF), Stands p r x y V1 → j + n = (p 10 - (i.natAbs : Int)) + 1 → -(p 10 - (i.natAbs : Int)) ≤ j →
      (∀ V', AccC p r x y q (((upl j n).filter (fun j => decide (i ≠ 0 ∨ j ≠ 0))).map (fun j => (i, j))) V1 V' → ∀ u, RY d 212 20 [vr 254, vr 92, vi (r : Int), vi i3, vr q, vi (wr (i + 1)), vi (p 10 - (i.natAbs : Int)), vi u] [] V' D Q) →
      RY d 212 46 [vr 254, vr 92, vi (r : Int), vi i3, vr q, vi i, vi (p 10 - (i.natAbs : Int)), vi j] [] V1 D Q := by
  have hqn := rep_ne hq
  intro n
  induction n with
  | zero =>
    intro j V1 hV hj hlo h
    refine u_212_46_92 ⟨fun _ => ?_, fun h1 => by omega⟩
    exact h V1 ⟨fun t => rfl, fun _ _ _ => rfl, Fr.rf⟩ j
  | succ n ih =>
    intro j V1 hV hj hlo h
    have step : ∀ V', AccC p r x y q (if i ≠ 0 ∨ j ≠ 0 then [(i, j)] else []) V1 V' → RY d 212 46 [vr 254, vr 92, vi (r : Int), vi i3, vr q, vi i, vi (p 10 - (i.natAbs : Int)), vi (wr (j + 1))] [] V' D Q := by
      intro V' hA
      rw [wr_id (by omega) (by omega)]
      refine ih (j + 1) V' (hA.stands hq hV) (by omega) (by omega) ?_
      intro V2 h2 u
      refine h V2 ?_ u
      rw [imj_step (b := p 10)]
      exact hA.app h2
    have one : (i ≠ 0 ∨ j ≠ 0) → RY d 289 0 [vr 254, vi i, vi j, vr 0, vr 0] [] V1 D (yback d 212 71 [vr 254, vr 92, vi (r : Int), vi i3, vr q, vi i, vi (p 10 - (i.natAbs : Int)), vi j] [] Q) := by
      intro h0
      have hI : isIm p r x y i j := ⟨hR.2.1, hR.2.2, hP.1, hP.2, by omega, h0⟩
      obtain ⟨a0, a1, a2, a3, a5, ab⟩ := hV
      refine c_measure hI a0 a1 a2 a3 a5 ab ?_
      intro W w6 w7 wk wF
      have hT := im_t hI
      have hK := rep_K hq D.2.2.1
      refine u_212_71_92 ?_
      rw [w6, w7, hK]
      refine ⟨hqn.1, ⟨by omega, by omega⟩, ⟨by omega, by dsimp only; omega⟩, rfl, ⟨by omega, by dsimp only; omega⟩, ?_⟩
      rintro V' rfl
      refine step _ ?_
      rw [if_pos h0]
      refine ⟨?_, ?_, ?_⟩
      · intro t
        rw [up2_a]
        show _ = acL p r x y t (V1 q t) (i, j)
        have e1 : W q = V1 q := wF.at_ q (by simp; omega)
        rw [e1]
        unfold acL
        by_cases ht : t = (imT p r x y i j).toNat
        · rw [if_pos ht, if_pos (by dsimp only; omega), ht]
        · rw [if_neg ht, if_neg (by dsimp only; omega)]
      · intro k k6 k7
        rw [up2_na (by omega)]
        exact wk k k6 k7
      · exact (wF.sub (by simp)).tr (Fr.up (by simp))
    refine u_212_46_92 ⟨fun h1 => by omega, fun _ => ⟨fun h1 => one (Or.inl h1), fun h1 => ⟨fun h2 => ?_, fun h2 => one (Or.inr h2)⟩⟩⟩
    refine step V1 ?_
    rw [if_neg (by omega)]
    exact ⟨fun t => rfl, fun _ _ _ => rfl, Fr.rf⟩
set_option maxHeartbeats 1000000 in
theorem c_listen_92 {p : Rw} {r q : Nat} {x y : Int} (hS : St V 92 p) (hB : V 2 = xback5) (hW : WF p) (hr : (r : Int) < p 3) (hP : isPl p r x y) (hq : isRep q)
    (h : ∀ V', hearC p r x y q V V' → Q (.inl none) V' D) : RY d 212 0 [vr 254, vr 92, vi (r : Int), vi (16 * x + y), vr q, vr 0, vr 0, vr 0] [] V D Q := by
  have hR := hW.room hr
  have hb : 1 ≤ p 10 ∧ p 10 ≤ 3 := hW.2.2.2.2.1
  have hqn := rep_ne hq
  have hK := rep_K hq D.2.2.1
  have s16 : V 92 16 = p 10 := hS.2.2.2.2.2.2.2.2.2.2.2.2.2.2.2.1
  have s14 : V 92 14 = p 8 := hS.2.2.2.2.2.2.2.2.2.2.2.2.2.1
  refine u_212_0_92 ⟨hqn.1, ?_⟩
  refine c_fill hqn.1 hK (by omega) ?_
  intro V1 z1 F1
  have S1 : St V1 92 p := by
    have e : ∀ k, k ≤ 10 → V1 (92 + k) = V (92 + k) := fun k hk => F1.at_ _ (by simp; omega)
    unfold St
    rw [e 1 (by omega), e 2 (by omega), e 3 (by omega), e 4 (by omega), e 5 (by omega), e 6 (by omega), e 7 (by omega), e 8 (by omega), e 9 (by omega), e 10 (by omega), show V1 92 = V 92 from e 0 (by omega)]
    exact hS
  refine u_212_6_92 ?_
  refine c_stand_92 S1 (by rw [F1.at_ 2 (by simp; omega)]; exact hB) hW hr hP ?_
  intro V2 s2 F2
  have e16 : V2 92 16 = p 10 := by rw [F2.at_ 92 (by decide), F1.at_ 92 (by simp; omega)]; exact s16
  refine u_212_13_92 ?_
  rw [e16, wr_id (by omega) (by omega)]
  have outer : ∀ (n : Nat) (i : Int) (v6 v7 : xV) (V1 : xF), Stands p r x y V1 → V1 92 16 = p 10 → i + n = p 10 + 1 → -(p 10) ≤ i →
      (∀ V', AccC p r x y q ((upl i n).flatMap (imj (p 10))) V1 V' → ∀ u u', RY d 212 100 [vr 254, vr 92, vi (r : Int), vi (16 * x + y), vr q, vi 0, u, u'] [] V' D Q) →
      RY d 212 20 [vr 254, vr 92, vi (r : Int), vi (16 * x + y), vr q, vi i, v6, v7] [] V1 D Q := by
    intro n
    induction n with
    | zero =>
      intro i v6 v7 V1 h1 h16 h2 h3 h4
      refine u_212_20_92 ⟨fun _ => h4 V1 ⟨fun t => rfl, fun _ _ _ => rfl, Fr.rf⟩ v6 v7, fun h5 => by rw [h16] at h5; omega⟩
    | succ n ih =>
      intro i v6 v7 V1 h1 h16 h2 h3 h4
      have hi : i.natAbs ≤ p 10 := by omega
      refine u_212_20_92 ⟨fun h5 => by rw [h16] at h5; omega, fun _ => ?_⟩
      rw [h16, yr288 (by omega) (by omega), wr_id (x := p 10 - (i.natAbs : Int)) (by omega) (by omega), wr_id (by omega) (by omega)]
      refine c_inner_92 (V := V1) hq h16 hR hP hb hi (2 * (p 10 - (i.natAbs : Int)) + 1).toNat _ V1 h1 (by omega) (by omega) ?_
      intro V' hA u
      rw [wr_id (by omega) (by omega)]
      refine ih (i + 1) _ _ V' (hA.stands hq h1) (by rw [hA.2.2.at_ 92 (by simp; omega)]; exact h16) (by omega) (by omega) ?_
      intro V3 hA3 u u'
      refine h4 V3 ?_ u u'
      show AccC p r x y q ((i :: upl (i + 1) n).flatMap (imj (p 10))) V1 V3
      rw [List.flatMap_cons]
      exact hA.app hA3
  refine outer (2 * p 10 + 1).toNat (-(p 10)) _ _ V2 s2 e16 (by omega) (by omega) ?_
  intro V3 hA u u'
  have z3 : ∀ t, t < 48 → V3 q t = louds p r x y t := by
    intro t ht
    rw [hA.1, show V2 q = V1 q from F2.at_ q (by simp; omega), z1 t ht]
    rfl
  have F3 : Fr [254, 255, q] V V3 := ((F1.sub (by simp)).tr (F2.sub (by simp))).tr (hA.2.2.sub (by simp))
  have main : ∀ (n k : Nat) (V1 : xF), k + n = 48 → (∀ t, t < k → V1 q t = hearT p r x y t) → (∀ t, k ≤ t → t < 48 → V1 q t = louds p r x y t) → Fr [254, 255, q] V V1 → RY d 212 100 [vr 254, vr 92, vi (r : Int), vi (16 * x + y), vr q, vi (k : Int), u, u'] [] V1 D Q := by
    intro n
    induction n with
    | zero =>
      intro k V1 hk h1 h2 h3
      exact u_212_100_92 ⟨fun _ => h V1 ⟨fun t ht => h1 t (by omega), h3⟩, fun h5 => by omega⟩
    | succ n ih =>
      intro k V1 hk h1 h2 h3
      have e14 : V1 92 14 = p 8 := by rw [h3.at_ 92 (by simp; omega)]; exact s14
      have ek : V1 q k = louds p r x y k := h2 k (by omega) (by omega)
      refine u_212_100_92 ⟨fun h5 => by omega, fun _ => ?_⟩
      rw [hK, nn_toNat, e14, ek, wr_id (x := (k : Int) + 1) (by omega) (by omega)]
      refine ⟨hqn.1, ⟨by omega, by omega⟩, ⟨by omega, by dsimp only; omega⟩, fun h5 => ?_, fun h5 => ⟨hqn.1, rfl, ⟨by omega, by dsimp only; omega⟩, ?_⟩⟩
      · refine ih (k + 1) V1 (by omega) ?_ (fun t a b => h2 t (by omega) b) h3
        intro t ht
        by_cases h7 : t = k
        · subst h7
          rw [ek]
          unfold hearT
          rw [if_neg (by omega)]
        · exact h1 t (by omega)
      · rintro V4 rfl
        refine ih (k + 1) _ (by omega) ?_ ?_ (h3.tr (Fr.up (by simp)))
        · intro t ht
          rw [up2_a]
          by_cases h7 : t = k
          · subst h7
            rw [if_pos rfl]
            unfold hearT
            rw [if_pos h5]
          · rw [if_neg h7]
            exact h1 t (by omega)
        · intro t a b
          rw [up2_ni (by omega)]
          exact h2 t (by omega) b
  exact main 48 0 V3 (by omega) (fun t ht => by omega) (fun t _ ht => z3 t ht) F3
end HEARC
