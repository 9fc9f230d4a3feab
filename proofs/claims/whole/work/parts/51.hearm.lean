/-! ===== THE MODEL HEARS ===== -/
section HEARM
variable {d : Nat} {V : xF} {D : yD} {Q : xRes → xF → yD → Prop}
theorem gvs_365 (s : Int) : yr_365 s V D = gvs s := rfl
theorem m_dulls {l s : Int} {n : Nat} (hl : 0 ≤ l ∧ l ≤ 1000) (hn : n ≤ 3) (h : Q (.inl (some (vi (dul l s n)))) V D) : RY d 323 0 [vi l, vi s, vi (n : Int), vr 0, vr 0] [] V D Q := by
  refine u_323_0 ?_
  have main : ∀ (k m : Nat) (z : Int), 0 ≤ z ∧ z ≤ 1000 → m + k = n → dul z s k = dul l s n → RY d 323 5 [vi l, vi s, vi (n : Int), vi z, vi (m : Int)] [] V D Q := by
    intro k
    induction k with
    | zero =>
      intro m z hz hm he
      refine u_323_5 ⟨fun _ => ?_, fun h1 => by omega⟩
      rw [← he] at h
      exact h
    | succ k ih =>
      intro m z hz hm he
      refine u_323_5 ⟨fun h1 => by omega, fun _ => ?_⟩
      have g := gvs_b s
      have h3 : 0 ≤ z * gvs s := Int.mul_nonneg hz.1 g.1
      have h4 : z * gvs s ≤ z * 9 := Int.mul_le_mul_of_nonneg_left g.2 hz.1
      rw [gvs_365, wr_id (x := z * gvs s) (by omega) (by omega), tdiv_nn h3, wr_id (by omega) (by omega), wr_id (by omega) (by omega)]
      exact ih (m + 1) _ ⟨by omega, by omega⟩ (by omega) he
  exact main n 0 l hl (by omega) rfl
theorem yr322_0 {i z p : Int} (h : i.tmod 2 = 0) (h1 : -46 ≤ ofs i z p ∧ ofs i z p ≤ 46) : yr_322 i z p 0 V D = ofs i z p := by
  unfold yr_322
  unfold ofs at h1 ⊢
  rw [if_pos h] at h1 ⊢
  rw [if_pos rfl, wr_id (by omega) (by omega)]
theorem yr322_1 {i z p : Int} (h : i.tmod 2 ≠ 0) (hi : -3 ≤ i ∧ i ≤ 3) (hz : 2 ≤ z ∧ z ≤ 12) (hp : 1 ≤ p ∧ p < z) : yr_322 i z p 1 V D = ofs i z p := by
  have h1 := (ofs_b hi.1 hi.2 hz hp).1
  unfold yr_322
  unfold ofs at h1 ⊢
  rw [if_neg h] at h1 ⊢
  rw [if_neg (by omega), wr_id (x := i + 1) (by omega) (by omega)]
  have h2 : -48 ≤ (i + 1) * z ∧ (i + 1) * z ≤ 48 := by
    rcases i7 hi.1 hi.2 with h | h | h | h | h | h | h <;> subst h <;> omega
  rw [wr_id (x := (i + 1) * z) (by omega) (by omega), wr_id (x := 2 * p) (by omega) (by omega), wr_id (by omega) (by omega)]
theorem m_of {r k : Nat} (hr : r < 5) (hk : k < 7) : ((wr ((wr ((16 : Int) + (wr ((7 : Int) * (r : Int))))) + (k : Int))).toNat) = 16 + 7 * r + k := by
  simp only [wr_eq]
  omega
theorem yg133 {r : Nat} {k : Int} (hr : r < 5) (hk : 0 ≤ k ∧ k < 7) : yg_133 (r : Int) k V D := by
  unfold yg_133
  rw [wr_id (x := 7 * (r : Int)) (by omega) (by omega), wr_id (x := 16 + 7 * (r : Int)) (by omega) (by omega), wr_id (by omega) (by omega)]
  omega
theorem cntT_b (g : Nat → Int) : ∀ k : Nat, 0 ≤ cntT g k ∧ cntT g k ≤ k
  | 0 => ⟨Int.le_refl _, Int.le_refl _⟩
  | k + 1 => by
    have := cntT_b g k
    unfold cntT
    split <;> omega
theorem yr133 {r k : Nat} (hr : r < 5) (hk : k < 7) : yr_133 (r : Int) (k : Int) V D = V 406 (16 + 7 * r + k) := by
  unfold yr_133
  rw [m_of hr hk]
theorem yr133_0 {r : Nat} (hr : r < 5) : yr_133 (r : Int) 0 V D = rW (V 406) r := yr133 hr (k := 0) (by omega)
theorem yr133_1 {r : Nat} (hr : r < 5) : yr_133 (r : Int) 1 V D = rD (V 406) r := by
  rw [show (1 : Int) = ((1 : Nat) : Int) from rfl, yr133 hr (by omega)]
  show V 406 _ = V 406 _
  rw [show 16 + 7 * r + 1 = 17 + 7 * r by omega]
theorem yr133_w {r w : Nat} (hr : r < 5) (hw : w < 4) : yr_133 (r : Int) (((2 + w : Nat)) : Int) V D = rS (V 406) r w := by
  rw [yr133 hr (by omega)]
  show V 406 _ = V 406 _
  rw [show 16 + 7 * r + (2 + w) = 18 + 7 * r + w by omega]
theorem yr133_2 {r : Nat} (hr : r < 5) : yr_133 (r : Int) 2 V D = rS (V 406) r 0 := yr133_w (w := 0) hr (by omega)
theorem yr133_3 {r : Nat} (hr : r < 5) : yr_133 (r : Int) 3 V D = rS (V 406) r 1 := yr133_w (w := 1) hr (by omega)
theorem yr133_4 {r : Nat} (hr : r < 5) : yr_133 (r : Int) 4 V D = rS (V 406) r 2 := yr133_w (w := 2) hr (by omega)
theorem yr133_5 {r : Nat} (hr : r < 5) : yr_133 (r : Int) 5 V D = rS (V 406) r 3 := yr133_w (w := 3) hr (by omega)
theorem yr133_6 {r : Nat} (hr : r < 5) : yr_133 (r : Int) 6 V D = rR (V 406) r := by
  rw [show (6 : Int) = ((6 : Nat) : Int) from rfl, yr133 hr (by omega)]
  show V 406 _ = V 406 _
  rw [show 16 + 7 * r + 6 = 22 + 7 * r by omega]
theorem m_half {a : Int} {i : Int} (h1 : -3 ≤ i) (h2 : i ≤ 3) (ha : a = (i.natAbs : Int)) : (0 ≤ i → wr (a.tdiv 2) = (loN i : Int)) ∧ (i < 0 → wr ((wr (a + 1)).tdiv 2) = (loN i : Int)) := by
  subst ha
  unfold loN
  rcases i7 h1 h2 with h | h | h | h | h | h | h <;> subst h <;> decide
theorem m_hi {i : Int} (h1 : -3 ≤ i) (h2 : i ≤ 3) : wr ((i.natAbs : Int) - (loN i : Int)) = (hiN i : Int) := by
  have := lohi h1 h2
  rw [wr_id (by omega) (by omega)]
  omega
/-- the root is found -/
theorem m_root {i1 i2 i3 i4 i5 i6 i7 i8 i9 i10 i11 i12 : Int} (h6 : -46 ≤ i6 ∧ i6 ≤ 46) (h7 : -46 ≤ i7 ∧ i7 ≤ 46) (hq : i6 * i6 + i7 * i7 < 2304)
    (h : RY d 254 221 [vr 405, vi i1, vi i2, vi i3, vi i4, vi i5, vi i6, vi i7, vi i8, vi i9, vi i10, vi i11, vi i12, vi (sqr (i6 * i6 + i7 * i7))] [] V D Q) :
    RY d 254 192 [vr 405, vi i1, vi i2, vi i3, vi i4, vi i5, vi i6, vi i7, vi i8, vi i9, vi i10, vi i11, vi i12, vi 0] [] V D Q := by
  have a6 := sq_le h6.1 h6.2
  have a7 := sq_le h7.1 h7.2
  have e : wr (wr (i6 * i6) + wr (i7 * i7)) = i6 * i6 + i7 * i7 := by
    rw [wr_id (x := i6 * i6) (by omega) (by omega), wr_id (x := i7 * i7) (by omega) (by omega), wr_id (by omega) (by omega)]
  have main : ∀ (n : Nat) (t : Int), 0 ≤ t → t * t ≤ i6 * i6 + i7 * i7 → t + n = 67 → RY d 254 192 [vr 405, vi i1, vi i2, vi i3, vi i4, vi i5, vi i6, vi i7, vi i8, vi i9, vi i10, vi i11, vi i12, vi t] [] V D Q := by
    intro n
    induction n with
    | zero =>
      intro t h0 h1 h2
      have : t = 67 := by omega
      subst this
      omega
    | succ n ih =>
      intro t h0 h1 h2
      have hb := sq_le (x := t + 1) (m := 67) (by omega) (by omega)
      have e1 : wr (t + 1) = t + 1 := wr_id (by omega) (by omega)
      have e2 : wr (wr (t + 1) * wr (t + 1)) = (t + 1) * (t + 1) := by rw [e1, wr_id (by omega) (by omega)]
      refine u_254_192 ⟨fun h3 => ?_, fun h3 => ?_⟩
      · rw [e, e2] at h3
        have := sqr_is (q := i6 * i6 + i7 * i7) (by omega) (by omega) h0 h1 h3
        rw [this]
        exact h
      · rw [e, e2] at h3
        rw [e1]
        exact ih (t + 1) (by omega) h3 (by omega)
  exact main 67 0 (by omega) (by omega) (by omega)
theorem im_dul {p : Rw} {r : Nat} {i j : Int} : 0 ≤ dul 1000 (rS p r 0) (loN i) ∧ dul 1000 (rS p r 0) (loN i) ≤ 1000 := dul_b _ ⟨by omega, by omega⟩
/-- ONE IMAGE -/
theorem m_echoes {r : Nat} {x y i j : Int} (hr : r < 5) (hI : isIm (V 406) r x y i j)
    (h : ∀ V', (∀ t, V' 412 t = acL (V 406) r x y t (V 412 t) (i, j)) → (∀ t, V' 413 t = acW (V 406) r x y t (V 413 t) (i, j)) → Fr [412, 413] V V' → Q (.inl none) V' D) :
    RY d 254 0 [vr 405, vi (r : Int), vi x, vi y, vi i, vi j, vr 0, vr 0, vr 0, vr 0, vr 0, vr 0, vr 0, vr 0] [] V D Q := by
  have hI' := hI
  obtain ⟨hw, hd, hx, hy, h3, h0⟩ := hI'
  have hi : -3 ≤ i ∧ i ≤ 3 := by omega
  have hj : -3 ≤ j ∧ j ≤ 3 := by omega
  have hq := im_q hI
  have hT := im_t hI
  have oi := (ofs_b hi.1 hi.2 hw hx).1
  have oj := (ofs_b hj.1 hj.2 hd hy).1
  have li := lohi hi.1 hi.2
  have lj := lohi hj.1 hj.2
  have hb : (0 : Int) ≤ imT (V 406) r x y i j ∧ imT (V 406) r x y i j < (64 : Int) := by omega
  have s266 : ∀ L, L = imL (V 406) r x y i j → RY d 254 266 [vr 405, vi (r : Int), vi x, vi y, vi i, vi j, vi (ofs i (rW (V 406) r) x), vi (ofs j (rD (V 406) r) y), vi (i.natAbs : Int), vi (j.natAbs : Int), vi (loN i : Int), vi (loN j : Int), vi L, vi (imT (V 406) r x y i j)] [] V D Q := by
    intro L hL
    have accl : ∀ t, up2 V 412 (imT (V 406) r x y i j).toNat (wr (V 412 (imT (V 406) r x y i j).toNat + L)) 412 t = acL (V 406) r x y t (V 412 t) (i, j) := by
      intro t
      rw [up2_a]
      unfold acL
      by_cases ht : t = (imT (V 406) r x y i j).toNat
      · rw [if_pos ht, if_pos (by dsimp only; omega), ht, hL]
      · rw [if_neg ht, if_neg (by dsimp only; omega)]
    refine u_254_266 ⟨hb, hb, ?_⟩
    rintro V1 rfl
    refine ⟨fun hz => ?_, fun hz => ⟨hb, ?_⟩⟩
    · refine u_254_341 (h _ accl ?_ ?_)
      · intro t
        rw [up2_na (by decide)]
        unfold acW
        rw [if_neg (by dsimp only; omega)]
      · exact Fr.up (by decide)
    · have big : ∀ w, w = imW i j → RY d 254 341 [vr 405, vi (r : Int), vi x, vi y, vi i, vi j, vi (ofs i (rW (V 406) r) x), vi (ofs j (rD (V 406) r) y), vi (i.natAbs : Int), vi (j.natAbs : Int), vi (loN i : Int), vi (loN j : Int), vi L, vi (imT (V 406) r x y i j)] [] (up2 (up2 V 412 (imT (V 406) r x y i j).toNat (wr (V 412 (imT (V 406) r x y i j).toNat + L))) 413 (imT (V 406) r x y i j).toNat (xor_ ((up2 V 412 (imT (V 406) r x y i j).toNat (wr (V 412 (imT (V 406) r x y i j).toNat + L))) 413 (imT (V 406) r x y i j).toNat) w)) D Q := by
        intro w hw
        refine u_254_341 (h _ ?_ ?_ ?_)
        · intro t
          rw [up2_na (by decide)]
          exact accl t
        · intro t
          rw [up2_a, up2_na (by decide)]
          unfold acW
          by_cases ht : t = (imT (V 406) r x y i j).toNat
          · rw [if_pos ht, if_pos (by dsimp only; omega), ht, hw]
          · rw [if_neg ht, if_neg (by dsimp only; omega)]
        · exact (Fr.up (S := [412, 413]) (by decide)).tr (Fr.up (by decide))
      constructor <;> intro a1 <;> constructor <;> intro a2 <;> constructor <;> intro a3 <;> constructor <;> intro a4 <;> refine ⟨hb, ?_⟩ <;> rintro V2 rfl <;> refine big _ ?_ <;> unfold imW <;> (repeat' split) <;> first | omega | decide +kernel
  have b4 := im3_b (V 406) r i j
  have b5 := div_b b4 hT.1
  have e4 : wr ((im3 (V 406) r i j).tdiv (imT (V 406) r x y i j)) = im3 (V 406) r i j / imT (V 406) r x y i j := by
    rw [tdiv_nn b4.1, wr_id (by omega) (by omega)]
  have e5 : wr ((im3 (V 406) r i j / imT (V 406) r x y i j).tdiv 2) = im3 (V 406) r i j / imT (V 406) r x y i j / 2 := by
    rw [tdiv_nn b5.1, wr_id (by omega) (by omega)]
  have s260 : ((V 406 9 = 1 ∧ ofs i (rW (V 406) r) x < 0) ∨ (V 406 9 = 2 ∧ 0 < ofs i (rW (V 406) r) x)) → RY d 254 260 [vr 405, vi (r : Int), vi x, vi y, vi i, vi j, vi (ofs i (rW (V 406) r) x), vi (ofs j (rD (V 406) r) y), vi (i.natAbs : Int), vi (j.natAbs : Int), vi (loN i : Int), vi (loN j : Int), vi (im3 (V 406) r i j / imT (V 406) r x y i j), vi (imT (V 406) r x y i j)] [] V D Q := by
    intro hc
    refine u_254_260 (s266 _ ?_)
    rw [imL_eq, if_pos hc, e5]
  have s244 : ¬ (V 406 9 = 1 ∧ ofs i (rW (V 406) r) x < 0) → RY d 254 244 [vr 405, vi (r : Int), vi x, vi y, vi i, vi j, vi (ofs i (rW (V 406) r) x), vi (ofs j (rD (V 406) r) y), vi (i.natAbs : Int), vi (j.natAbs : Int), vi (loN i : Int), vi (loN j : Int), vi (im3 (V 406) r i j / imT (V 406) r x y i j), vi (imT (V 406) r x y i j)] [] V D Q := by
    intro hc
    refine u_254_244 ⟨fun h1 => s266 _ ?_, fun h1 => ⟨fun h2 => s266 _ ?_, fun h2 => s260 (Or.inr ⟨h1, h2⟩)⟩⟩
    · rw [imL_eq, if_neg (by omega)]
    · rw [imL_eq, if_neg (by omega)]
  have s221 : RY d 254 221 [vr 405, vi (r : Int), vi x, vi y, vi i, vi j, vi (ofs i (rW (V 406) r) x), vi (ofs j (rD (V 406) r) y), vi (i.natAbs : Int), vi (j.natAbs : Int), vi (loN i : Int), vi (loN j : Int), vi (im3 (V 406) r i j), vi (imT (V 406) r x y i j)] [] V D Q := by
    refine u_254_221 ⟨by omega, ?_⟩
    rw [e4]
    refine ⟨fun h1 => s244 (by omega), fun h1 => ⟨fun h2 => s260 (Or.inl ⟨h1, h2⟩), fun h2 => s244 (by omega)⟩⟩
  have s122 : ∀ a b u v, a = (i.natAbs : Int) → b = (j.natAbs : Int) → u = (loN i : Int) → v = (loN j : Int) → RY d 254 122 [vr 405, vi (r : Int), vi x, vi y, vi i, vi j, vi (ofs i (rW (V 406) r) x), vi (ofs j (rD (V 406) r) y), vi a, vi b, vi u, vi v, vr 0, vr 0] [] V D Q := by
    rintro a b u v rfl rfl rfl rfl
    refine u_254_122 ⟨yg133 hr (by omega), ?_⟩
    rw [yr133_2 hr]
    refine m_dulls ⟨by omega, by omega⟩ (by omega) ?_
    have b1 := dul_b (s := rS (V 406) r 0) (loN i) (l := 1000) ⟨by omega, by omega⟩
    refine u_254_136 ⟨yg133 hr (by omega), ?_⟩
    rw [yr133_3 hr, m_hi hi.1 hi.2]
    refine m_dulls b1 (by omega) ?_
    have b2 := dul_b (s := rS (V 406) r 1) (hiN i) b1
    refine u_254_154 ⟨yg133 hr (by omega), ?_⟩
    rw [yr133_4 hr]
    refine m_dulls b2 (by omega) ?_
    have b3 := dul_b (s := rS (V 406) r 2) (loN j) b2
    refine u_254_169 ⟨yg133 hr (by omega), ?_⟩
    rw [yr133_5 hr, m_hi hj.1 hj.2]
    refine m_dulls b3 (by omega) ?_
    refine u_254_187 ?_
    exact m_root oi oj hq.2.2.2 s221
  have s102 : ∀ a b u, a = (i.natAbs : Int) → b = (j.natAbs : Int) → u = (loN i : Int) → RY d 254 102 [vr 405, vi (r : Int), vi x, vi y, vi i, vi j, vi (ofs i (rW (V 406) r) x), vi (ofs j (rD (V 406) r) y), vi a, vi b, vi u, vr 0, vr 0, vr 0] [] V D Q := fun a b u ha hb' hu =>
    u_254_102 ⟨fun h1 => s122 _ _ _ _ ha hb' hu ((m_half hj.1 hj.2 hb').1 h1), fun h1 => s122 _ _ _ _ ha hb' hu ((m_half hj.1 hj.2 hb').2 h1)⟩
  have s82 : ∀ a b, a = (i.natAbs : Int) → b = (j.natAbs : Int) → RY d 254 82 [vr 405, vi (r : Int), vi x, vi y, vi i, vi j, vi (ofs i (rW (V 406) r) x), vi (ofs j (rD (V 406) r) y), vi a, vi b, vr 0, vr 0, vr 0, vr 0] [] V D Q := fun a b ha hb' =>
    u_254_82 ⟨fun h1 => s102 _ _ _ ha hb' ((m_half hi.1 hi.2 ha).1 h1), fun h1 => s102 _ _ _ ha hb' ((m_half hi.1 hi.2 ha).2 h1)⟩
  have nb : ∀ z : Int, -3 ≤ z → z < 0 → wr (-z) = (z.natAbs : Int) := fun z h1 h2 => by rw [wr_id (by omega) (by omega)]; omega
  have s52 : RY d 254 52 [vr 405, vi (r : Int), vi x, vi y, vi i, vi j, vi (ofs i (rW (V 406) r) x), vi (ofs j (rD (V 406) r) y), vr 0, vr 0, vr 0, vr 0, vr 0, vr 0] [] V D Q :=
    u_254_52 ⟨fun h1 => u_254_67 ⟨fun h2 => s82 _ _ (by omega) (by omega), fun h2 => s82 _ _ (by omega) (nb _ hj.1 h2)⟩, fun h1 => u_254_67 ⟨fun h2 => s82 _ _ (nb _ hi.1 h1) (by omega), fun h2 => s82 _ _ (nb _ hi.1 h1) (nb _ hj.1 h2)⟩⟩
  refine u_254_0 ⟨yg133 hr (by omega), fun h1 => ?_, fun h1 => ?_⟩
  all_goals (rw [yr133_0 hr]; first | rw [yr322_0 h1 oi] | rw [yr322_1 h1 hi hw hx])
  all_goals (refine u_254_26 ⟨yg133 hr (by omega), fun h2 => ?_, fun h2 => ?_⟩)
  all_goals (rw [yr133_1 hr]; first | rw [yr322_0 h2 oj] | rw [yr322_1 h2 hj hd hy])
  all_goals exact s52
/-! ===== all images ===== -/
/-- what a list of images has added -/
def Acc (p : Rw) (r : Nat) (x y : Int) (l : List (Int × Int)) (V V' : xF) : Prop :=
  (∀ t, V' 412 t = l.foldl (acL p r x y t) (V 412 t)) ∧ (∀ t, V' 413 t = l.foldl (acW p r x y t) (V 413 t)) ∧ Fr [412, 413] V V'
theorem Acc.app {p : Rw} {r : Nat} {x y : Int} {l l' : List (Int × Int)} {V V' V2 : xF} (h : Acc p r x y l V V') (h' : Acc p r x y l' V' V2) : Acc p r x y (l ++ l') V V2 :=
  ⟨fun t => by rw [h'.1, h.1, List.foldl_append], fun t => by rw [h'.2.1, h.2.1, List.foldl_append], h.2.2.tr h'.2.2⟩
/-- a place of a room -/
def isPl (p : Rw) (r : Nat) (x y : Int) : Prop := (1 ≤ x ∧ x < rW p r) ∧ (1 ≤ y ∧ y < rD p r)
def rOK (p : Rw) (r : Nat) : Prop := r < 5 ∧ (2 ≤ rW p r ∧ rW p r ≤ 12) ∧ (2 ≤ rD p r ∧ rD p r ≤ 12)
theorem WF.room {p : Rw} (h : WF p) {r : Nat} (hr : (r : Int) < p 3) : rOK p r := by
  obtain ⟨h1, -, -, -, -, -, -, -, -, -, -, h2, -⟩ := h
  have := h2 r hr
  exact ⟨by omega, this.1, this.2.1⟩
theorem imj_step {b i j : Int} {n : Nat} : ((upl j (n + 1)).filter (fun j => decide (i ≠ 0 ∨ j ≠ 0))).map (fun j => (i, j)) = (if i ≠ 0 ∨ j ≠ 0 then [(i, j)] else []) ++ ((upl (j + 1) n).filter (fun j => decide (i ≠ 0 ∨ j ≠ 0))).map (fun j => (i, j)) := by
  show ((j :: upl (j + 1) n).filter _).map _ = _
  by_cases h : i ≠ 0 ∨ j ≠ 0
  · rw [List.filter_cons_of_pos (by simpa using h), if_pos h]
    rfl
  · rw [List.filter_cons_of_neg (by simpa using h), if_neg h]
    rfl
set_option maxHeartbeats 1000000 in
/-- those of one number along X -/
theorem m_inner {r : Nat} {x y b i : Int} (hR : rOK (V 406) r) (hP : isPl (V 406) r x y) (hb : 1 ≤ b ∧ b ≤ 3) (hi : i.natAbs ≤ b) :
    ∀ (n : Nat) (j : Int) (V1 : xF), V1 406 = V 406 → j + n = (b - (i.natAbs : Int)) + 1 → -(b - (i.natAbs : Int)) ≤ j →
      (∀ V', Acc (V 406) r x y (((upl j n).filter (fun j => decide (i ≠ 0 ∨ j ≠ 0))).map (fun j => (i, j))) V1 V' → ∀ u, RY d 155 46 [vr 405, vi (r : Int), vi x, vi y, vi b, vi (wr (i + 1)), vi (b - (i.natAbs : Int)), vi u] [] V' D Q) →
      RY d 155 76 [vr 405, vi (r : Int), vi x, vi y, vi b, vi i, vi (b - (i.natAbs : Int)), vi j] [] V1 D Q := by
  intro n
  induction n with
  | zero =>
    intro j V1 hV hj hlo h
    refine u_155_76 ⟨fun _ => ?_, fun h1 => by omega⟩
    exact h V1 ⟨fun t => rfl, fun t => rfl, Fr.rf⟩ j
  | succ n ih =>
    intro j V1 hV hj hlo h
    have step : ∀ V', Acc (V 406) r x y (if i ≠ 0 ∨ j ≠ 0 then [(i, j)] else []) V1 V' → RY d 155 76 [vr 405, vi (r : Int), vi x, vi y, vi b, vi i, vi (b - (i.natAbs : Int)), vi (wr (j + 1))] [] V' D Q := by
      intro V' hA
      rw [wr_id (by omega) (by omega)]
      refine ih (j + 1) V' ?_ (by omega) (by omega) ?_
      · rw [hA.2.2.at_ 406 (by decide)]; exact hV
      · intro V2 h2 u
        refine h V2 ?_ u
        rw [imj_step (b := b)]
        exact hA.app h2
    have one : (i ≠ 0 ∨ j ≠ 0) → RY d 254 0 [vr 405, vi (r : Int), vi x, vi y, vi i, vi j, vr 0, vr 0, vr 0, vr 0, vr 0, vr 0, vr 0, vr 0] [] V1 D (yback d 155 104 [vr 405, vi (r : Int), vi x, vi y, vi b, vi i, vi (b - (i.natAbs : Int)), vi j] [] Q) := by
      intro h0
      refine m_echoes (V := V1) hR.1 (by rw [hV]; exact ⟨hR.2.1, hR.2.2, hP.1, hP.2, by omega, h0⟩) ?_
      intro V' e1 e2 e3
      refine u_155_104 (step V' ?_)
      rw [if_pos h0]
      rw [hV] at e1 e2
      exact ⟨e1, e2, e3⟩
    refine u_155_76 ⟨fun h1 => by omega, fun _ => ⟨fun h1 => one (Or.inl h1), fun h1 => ⟨fun h2 => ?_, fun h2 => one (Or.inr h2)⟩⟩⟩
    refine step V1 ?_
    rw [if_neg (by omega)]
    exact ⟨fun t => rfl, fun t => rfl, Fr.rf⟩
/-- the times below the ear are not heard -/
theorem m_ear {i1 i2 i3 i4 : Int} {v7 : xV} (f : Nat → Int) (e : Int) (he : V 406 8 = e) (hf : ∀ t, t < 64 → V 412 t = f t)
    (h : ∀ V', (∀ t, t < 64 → V' 412 t = if f t < e then 0 else f t) → Fr [412] V V' → Q (.inl (some (vi (cntT (fun t => if f t < e then 0 else f t) 64)))) V' D) :
    RY d 155 122 [vr 405, vi i1, vi i2, vi i3, vi i4, vi 0, vi 0, v7] [] V D Q := by
  have main : ∀ (n k : Nat) (V1 : xF), k + n = 64 → V1 406 8 = e → (∀ t, t < k → V1 412 t = if f t < e then 0 else f t) → (∀ t, k ≤ t → t < 64 → V1 412 t = f t) → Fr [412] V V1 → RY d 155 122 [vr 405, vi i1, vi i2, vi i3, vi i4, vi (cntT (fun t => if f t < e then 0 else f t) k), vi (k : Int), v7] [] V1 D Q := by
    intro n
    induction n with
    | zero =>
      intro k V1 hk h1 h2 h3 h4
      have : k = 64 := by omega
      subst this
      refine u_155_122 ⟨fun _ => h V1 h2 h4, fun h5 => by omega⟩
    | succ n ih =>
      intro k V1 hk h1 h2 h3 h4
      have hc := cntT_b (fun t => if f t < e then 0 else f t) k
      have hb : (0 : Int) ≤ (k : Int) ∧ (k : Int) < (64 : Int) := by omega
      have e1 : wr ((k : Int) + 1) = ((k + 1 : Nat) : Int) := by rw [wr_id (by omega) (by omega)]; omega
      have ek : V1 412 k = f k := h3 k (by omega) (by omega)
      refine u_155_122 ⟨fun h5 => by omega, fun _ => ⟨hb, ?_⟩⟩
      rw [nn_toNat, e1, h1, ek]
      refine ⟨fun h5 => ⟨hb, ?_⟩, fun h5 => ⟨hb, ?_⟩⟩
      · have hg : (if f k < e then 0 else f k) = f k := if_neg (by omega)
        refine ⟨fun h6 => ?_, fun h6 => ?_⟩
        · rw [wr_id (by omega) (by omega)]
          have := ih (k + 1) V1 (by omega) h1 (fun t ht => by
            by_cases h7 : t = k
            · subst h7; rw [ek, hg]
            · exact h2 t (by omega)) (fun t h7 h8 => h3 t (by omega) h8) h4
          unfold cntT at this
          rw [if_neg (by rw [hg]; omega)] at this
          exact this
        · rw [wr_id (by omega) (by omega)]
          have := ih (k + 1) V1 (by omega) h1 (fun t ht => by
            by_cases h7 : t = k
            · subst h7; rw [ek, hg]
            · exact h2 t (by omega)) (fun t h7 h8 => h3 t (by omega) h8) h4
          unfold cntT at this
          rw [if_pos (by rw [hg]; omega)] at this
          exact this
      · have hg : (if f k < e then 0 else f k) = 0 := if_pos (by omega)
        rintro V2 rfl
        refine ⟨hb, fun h6 => ?_, fun h6 => ?_⟩
        · rw [wr_id (by omega) (by omega)]
          have := ih (k + 1) (up2 V1 412 k 0) (by omega) (by rw [up2_na (by decide)]; exact h1) (fun t ht => by
            rw [up2_a]
            by_cases h7 : t = k
            · subst h7; rw [if_pos rfl, hg]
            · rw [if_neg h7]; exact h2 t (by omega)) (fun t h7 h8 => by rw [up2_ni (by omega)]; exact h3 t (by omega) h8) (h4.tr (Fr.up (by decide)))
          unfold cntT at this
          rw [if_neg (by rw [hg]; omega)] at this
          exact this
        · rw [up2_at] at h6
          omega
  exact main 64 0 V (by omega) he (fun t ht => by omega) (fun t _ ht => hf t ht) Fr.rf
set_option maxHeartbeats 1000000 in
/-- WHAT COMES BACK IN A PLACE, BY TIMES -/
theorem m_hears {r : Nat} {x y : Int} (hW : WF (V 406)) (hr : (r : Int) < V 406 3) (hP : isPl (V 406) r x y)
    (h : ∀ V', (∀ t, t < 64 → V' 412 t = hearT (V 406) r x y t) → (∀ t, t < 64 → V' 413 t = wallsOf (V 406) r x y t) → Fr [412, 413] V V' → Q (.inl (some (vi (cntT (hearT (V 406) r x y) 64)))) V' D) :
    RY d 155 0 [vr 405, vi (r : Int), vi x, vi y, vr 0, vr 0, vr 0, vr 0] [] V D Q := by
  have hR := hW.room hr
  have hb : 1 ≤ V 406 10 ∧ V 406 10 ≤ 3 := hW.2.2.2.2.1
  -- all is 0 first
  have zero : ∀ (n k : Nat) (V1 : xF), k + n = 64 → (∀ t, t < k → V1 412 t = 0 ∧ V1 413 t = 0) → Fr [412, 413] V V1 →
      (∀ V2, (∀ t, t < 64 → V2 412 t = 0 ∧ V2 413 t = 0) → Fr [412, 413] V V2 → RY d 155 46 [vr 405, vi (r : Int), vi x, vi y, vi (V 406 10), vi (-(V 406 10)), vr 0, vr 0] [] V2 D Q) →
      RY d 155 3 [vr 405, vi (r : Int), vi x, vi y, vi (k : Int), vr 0, vr 0, vr 0] [] V1 D Q := by
    intro n
    induction n with
    | zero =>
      intro k V1 hk h1 h2 h3
      refine u_155_3 ⟨fun _ => ?_, fun h5 => by omega⟩
      have e : V1 406 = V 406 := h2.at_ 406 (by decide)
      rw [e, wr_id (by omega) (by omega)]
      exact h3 V1 (fun t ht => h1 t (by omega)) h2
    | succ n ih =>
      intro k V1 hk h1 h2 h3
      have hb : (0 : Int) ≤ (k : Int) ∧ (k : Int) < (64 : Int) := by omega
      have e1 : wr ((k : Int) + 1) = ((k + 1 : Nat) : Int) := by rw [wr_id (by omega) (by omega)]; omega
      refine u_155_3 ⟨fun h5 => by omega, fun _ => ⟨hb, ?_⟩⟩
      rintro V2 rfl
      refine ⟨hb, ?_⟩
      rintro V3 rfl
      rw [e1, nn_toNat]
      refine ih (k + 1) _ (by omega) ?_ ((h2.tr (Fr.up (by decide))).tr (Fr.up (by decide))) h3
      intro t ht
      by_cases h7 : t = k
      · subst h7
        rw [up2_na (by decide), up2_at, up2_at]
        exact ⟨rfl, rfl⟩
      · rw [up2_na (by decide), up2_ni h7, up2_ni h7, up2_na (by decide)]
        exact h1 t (by omega)
  refine u_155_0 ?_
  refine zero 64 0 V (by omega) (fun t ht => by omega) Fr.rf ?_
  intro V2 hz hF
  have e406 : V2 406 = V 406 := hF.at_ 406 (by decide)
  -- all images
  have outer : ∀ (n : Nat) (i : Int) (v6 v7 : xV) (V1 : xF), V1 406 = V 406 → i + n = V 406 10 + 1 → -(V 406 10) ≤ i →
      (∀ V', Acc (V 406) r x y ((upl i n).flatMap (imj (V 406 10))) V1 V' → ∀ u, RY d 155 122 [vr 405, vi (r : Int), vi x, vi y, vi (V 406 10), vi 0, vi 0, u] [] V' D Q) →
      RY d 155 46 [vr 405, vi (r : Int), vi x, vi y, vi (V 406 10), vi i, v6, v7] [] V1 D Q := by
    intro n
    induction n with
    | zero =>
      intro i v6 v7 V1 h1 h2 h3 h4
      refine u_155_46 ⟨fun _ => h4 V1 ⟨fun t => rfl, fun t => rfl, Fr.rf⟩ v7, fun h5 => by omega⟩
    | succ n ih =>
      intro i v6 v7 V1 h1 h2 h3 h4
      have hi : i.natAbs ≤ V 406 10 := by omega
      have go : RY d 155 76 [vr 405, vi (r : Int), vi x, vi y, vi (V 406 10), vi i, vi (V 406 10 - (i.natAbs : Int)), vi (-(V 406 10 - (i.natAbs : Int)))] [] V1 D Q := by
        refine m_inner hR hP hb hi (2 * (V 406 10 - (i.natAbs : Int)) + 1).toNat _ V1 h1 (by omega) (by omega) ?_
        intro V' hA u
        rw [wr_id (by omega) (by omega)]
        refine ih (i + 1) _ _ V' (by rw [hA.2.2.at_ 406 (by decide)]; exact h1) (by omega) (by omega) ?_
        intro V3 hA3 u
        refine h4 V3 ?_ u
        show Acc (V 406) r x y ((i :: upl (i + 1) n).flatMap (imj (V 406 10))) V1 V3
        rw [List.flatMap_cons]
        exact hA.app hA3
      refine u_155_46 ⟨fun h5 => by omega, fun _ => ⟨fun h5 => ?_, fun h5 => ?_⟩⟩
      · have e : V 406 10 - i = V 406 10 - (i.natAbs : Int) := by omega
        rw [wr_id (x := V 406 10 - i) (by omega) (by omega), e, wr_id (by omega) (by omega)]
        exact go
      · have e : V 406 10 - -i = V 406 10 - (i.natAbs : Int) := by omega
        rw [wr_id (x := -i) (by omega) (by omega), wr_id (x := V 406 10 - -i) (by omega) (by omega), e, wr_id (by omega) (by omega)]
        exact go
  refine outer (2 * V 406 10 + 1).toNat (-(V 406 10)) _ _ V2 e406 (by omega) (by omega) ?_
  intro V3 hA u
  refine m_ear (louds (V 406) r x y) (V 406 8) (by rw [hA.2.2.at_ 406 (by decide), e406]) ?_ ?_
  · intro t ht
    rw [hA.1, (hz t ht).1]
    rfl
  · intro V4 h4 hF4
    refine h V4 (fun t ht => by rw [h4 t ht]; rfl) ?_ ((hF.tr hA.2.2).tr (hF4.sub (by decide)))
    intro t ht
    rw [hF4.at_ 413 (by decide), hA.2.1, (hz t ht).2]
    rfl
end HEARM
