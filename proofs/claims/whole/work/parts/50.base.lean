/-! ===== NUMBERS AND ROOMS ===== -/
theorem wr_eq (x : Int) : wr x = (x + 2147483648) % 4294967296 - 2147483648 := by
  unfold wr Int.bmod
  dsimp only
  split <;> omega
theorem wr_id {x : Int} (h1 : -2147483648 ≤ x) (h2 : x ≤ 2147483647) : wr x = x := by rw [wr_eq]; omega
theorem wr_r32 (x : Int) : -2147483648 ≤ wr x ∧ wr x ≤ 2147483647 := by rw [wr_eq]; omega
theorem wl_eq (x : Int) : wl x = (x + 9223372036854775808) % 18446744073709551616 - 9223372036854775808 := by
  unfold wl Int.bmod
  dsimp only
  split <;> omega
theorem wl_id {x : Int} (h1 : -9223372036854775808 ≤ x) (h2 : x ≤ 9223372036854775807) : wl x = x := by rw [wl_eq]; omega
theorem up2_at {α : Type} (f : Nat → Nat → α) (a i : Nat) (z : α) : up2 f a i z a i = z := by simp [up2]
theorem up2_na {α : Type} {f : Nat → Nat → α} {a i b : Nat} {z : α} (h : b ≠ a) : up2 f a i z b = f b := by funext j; simp [up2, h]
theorem up2_ni {α : Type} {f : Nat → Nat → α} {a i b j : Nat} {z : α} (h : j ≠ i) : up2 f a i z b j = f b j := by simp [up2, h]
theorem up2_a {α : Type} (f : Nat → Nat → α) (a i j : Nat) (z : α) : up2 f a i z a j = if j = i then z else f a j := by simp [up2]
theorem xcpy_na {V : xF} {s sp t dp n b : Nat} (h : b ≠ t) : xcpy V s sp t dp n b = V b := by funext j; simp [xcpy, h]
theorem xcpy_a (V : xF) (s sp t dp n j : Nat) : xcpy V s sp t dp n t j = if dp ≤ j ∧ j < dp + n then V s (sp + (j - dp)) else V t j := by simp [xcpy]
/-- nothing but these has changed -/
def Fr (S : List Nat) (V V' : xF) : Prop := ∀ a, a ∉ S → V' a = V a
theorem Fr.rf {S : List Nat} {V : xF} : Fr S V V := fun _ _ => rfl
theorem Fr.tr {S : List Nat} {V V' V2 : xF} (h : Fr S V V') (h' : Fr S V' V2) : Fr S V V2 := fun a ha => (h' a ha).trans (h a ha)
theorem Fr.sub {S S' : List Nat} {V V' : xF} (h : Fr S V V') (hs : ∀ a ∈ S, a ∈ S') : Fr S' V V' := fun a ha => h a (fun h' => ha (hs a h'))
theorem Fr.up {S : List Nat} {V : xF} {a i : Nat} {z : Int} (h : a ∈ S) : Fr S V (up2 V a i z) := fun b hb => up2_na (fun e => hb (e ▸ h))
theorem Fr.at_ {S : List Nat} {V V' : xF} (h : Fr S V V') (a : Nat) (ha : a ∉ S) : V' a = V a := h a ha
/-- Java's quotient, of what is not below 0 -/
theorem tdiv_nn {x y : Int} (h : 0 ≤ x) : x.tdiv y = x / y := Int.tdiv_eq_ediv_of_nonneg h
theorem tmod_nn {x y : Int} (h : 0 ≤ x) : x.tmod y = x % y := Int.tmod_eq_emod_of_nonneg h
theorem nn_toNat {n : Nat} : ((n : Int)).toNat = n := Int.toNat_natCast n
/-! ===== THE ROW OF THE HOUSE ===== -/
abbrev Rw : Type := Nat → Int
def rW (p : Rw) (r : Nat) : Int := p (16 + 7 * r)
def rD (p : Rw) (r : Nat) : Int := p (17 + 7 * r)
def rS (p : Rw) (r w : Nat) : Int := p (18 + 7 * r + w)
def rR (p : Rw) (r : Nat) : Int := p (22 + 7 * r)
def tP_ (p : Rw) (t : Nat) : Int := p (51 + 3 * t)
def tW_ (p : Rw) (t : Nat) : Int := p (52 + 3 * t)
def tL_ (p : Rw) (t : Nat) : Int := p (53 + 3 * t)
def dO_ (p : Rw) (r o : Nat) : Int := p (66 + 5 * r + o)
/-- a row as calls may make it -/
def WF (p : Rw) : Prop :=
  (0 ≤ p 3 ∧ p 3 ≤ 5) ∧ (0 ≤ p 4 ∧ p 4 ≤ 5) ∧ (0 ≤ p 8 ∧ p 8 ≤ 999) ∧ (0 ≤ p 9 ∧ p 9 ≤ 2) ∧ (1 ≤ p 10 ∧ p 10 ≤ 3) ∧ (0 ≤ p 11 ∧ p 11 ≤ 100) ∧ (0 ≤ p 12 ∧ p 12 ≤ 9999) ∧ (0 ≤ p 13 ∧ p 13 ≤ 9999) ∧ (0 ≤ p 14 ∧ p 14 ≤ 60) ∧ (0 ≤ p 0 ∧ p 0 ≤ 12) ∧ (-1 ≤ p 1 ∧ p 1 ≤ 12) ∧
  (∀ r : Nat, (r : Int) < p 3 → (2 ≤ rW p r ∧ rW p r ≤ 12) ∧ (2 ≤ rD p r ∧ rD p r ≤ 12) ∧ (∀ w, w < 4 → 0 ≤ rS p r w ∧ rS p r w ≤ 4) ∧ (0 ≤ rR p r ∧ rR p r ≤ 99)) ∧
  (∀ t : Nat, (t : Int) < p 4 → (0 ≤ tP_ p t ∧ tP_ p t ≤ 99) ∧ (0 ≤ tW_ p t ∧ tW_ p t ≤ 9) ∧ (-1 ≤ tL_ p t ∧ tL_ p t < p 3)) ∧
  (∀ t u : Nat, (t : Int) < p 4 → (u : Int) < p 4 → tL_ p t = tL_ p u → tL_ p t ≠ -1 → t = u) ∧
  (∀ r o : Nat, r < 5 → o < 5 → (dO_ p r o = 0 ∨ dO_ p r o = 1) ∧ dO_ p r o = dO_ p o r ∧ (dO_ p r o = 1 → (r : Int) < p 3 ∧ (o : Int) < p 3 ∧ r ≠ o)) ∧
  (p 5 = -1 ∨ (0 ≤ p 5 ∧ p 5 < p 3 ∧ 1 ≤ p 6 ∧ p 6 < rW p (p 5).toNat ∧ 1 ≤ p 7 ∧ p 7 < rD p (p 5).toNat))
/-- the cells of a room's doors, as bits -/
def dB_ (p : Rw) (r : Nat) : Int := dO_ p r 0 + 2 * dO_ p r 1 + 4 * dO_ p r 2 + 8 * dO_ p r 3 + 16 * dO_ p r 4
/-- the object of State at s holds the row p -/
def St (V : xF) (s : Nat) (p : Rw) : Prop :=
  V s 0 = p 3 ∧ (∀ r, r < 5 → V (s + 1) r = rW p r) ∧ (∀ r, r < 5 → V (s + 2) r = rD p r) ∧ (∀ r w, r < 5 → w < 4 → V (s + 3) (4 * r + w) = rS p r w) ∧ (∀ r, r < 5 → V (s + 4) r = rR p r) ∧ (∀ r, r < 5 → V (s + 5) r = dB_ p r) ∧
  V s 6 = p 4 ∧ (∀ t, t < 5 → V (s + 6) t = tP_ p t) ∧ (∀ t, t < 5 → V (s + 7) t = tW_ p t) ∧ (∀ t, t < 5 → V (s + 8) t = tL_ p t) ∧
  V s 10 = p 0 ∧ V s 12 = p 5 ∧ V s 13 = (if p 5 = -1 then -1 else 16 * p 6 + p 7) ∧ V s 14 = p 8 ∧ V s 15 = p 9 ∧ V s 16 = p 10 ∧ V s 17 = p 11 ∧ V s 18 = p 12 ∧ V s 19 = p 15 ∧
  V (s + 9) 0 = p 13 ∧ V (s + 9) 1 = p 14 ∧ (∀ k, k < 240 → V (s + 10) k = p (91 + k))
/-! ===== WHAT IS HEARD ===== -/
def gvs (s : Int) : Int := if s = 0 then 0 else if s = 1 then 2 else if s = 2 then 5 else if s = 3 then 8 else 9
def dul (l s : Int) : Nat → Int
  | 0 => l
  | n + 1 => dul (l * gvs s / 10) s n
def ofs (i z p : Int) : Int := if i.tmod 2 = 0 then i * z else (i + 1) * z - 2 * p
def loN (n : Int) : Nat := if n < 0 then ((1 - n) / 2).toNat else (n / 2).toNat
def hiN (n : Int) : Nat := if n < 0 then (-n / 2).toNat else ((n + 1) / 2).toNat
/-- the root, rounded down -/
def sqf : Nat → Int → Int → Int
  | 0, _, t => t
  | n + 1, q, t => if (t + 1) * (t + 1) ≤ q then sqf n q (t + 1) else t
def sqr (q : Int) : Int := sqf 64 q 0
def imT (p : Rw) (r : Nat) (x y i j : Int) : Int := sqr (ofs i (rW p r) x * ofs i (rW p r) x + ofs j (rD p r) y * ofs j (rD p r) y)
def imL (p : Rw) (r : Nat) (x y i j : Int) : Int :=
  (fun l => if (p 9 = 1 ∧ ofs i (rW p r) x < 0) ∨ (p 9 = 2 ∧ 0 < ofs i (rW p r) x) then l / 2 else l) (dul (dul (dul (dul 1000 (rS p r 0) (loN i)) (rS p r 1) (hiN i)) (rS p r 2) (loN j)) (rS p r 3) (hiN j) / imT p r x y i j)
def imW (i j : Int) : Int := (if 0 < loN i then 1 else 0) + (if 0 < hiN i then 2 else 0) + (if 0 < loN j then 4 else 0) + (if 0 < hiN j then 8 else 0)
def upl : Int → Nat → List Int
  | _, 0 => []
  | a, n + 1 => a :: upl (a + 1) n
/-- those of a number along X -/
def imj (b i : Int) : List (Int × Int) := ((upl (-(b - (i.natAbs : Int))) (2 * (b - (i.natAbs : Int)) + 1).toNat).filter (fun j => decide (i ≠ 0 ∨ j ≠ 0))).map (fun j => (i, j))
def ims (b : Int) : List (Int × Int) := (upl (-b) (2 * b + 1).toNat).flatMap (imj b)
/-- how loud, of a time, is what a list of images gives to what there was -/
def acL (p : Rw) (r : Nat) (x y : Int) (t : Nat) (z : Int) (q : Int × Int) : Int := if imT p r x y q.1 q.2 = (t : Int) then wr (z + imL p r x y q.1 q.2) else z
def acW (p : Rw) (r : Nat) (x y : Int) (t : Nat) (z : Int) (q : Int × Int) : Int := if imT p r x y q.1 q.2 = (t : Int) ∧ 0 < imL p r x y q.1 q.2 then xor_ z (imW q.1 q.2) else z
def louds (p : Rw) (r : Nat) (x y : Int) (t : Nat) : Int := (ims (p 10)).foldl (acL p r x y t) 0
def wallsOf (p : Rw) (r : Nat) (x y : Int) (t : Nat) : Int := (ims (p 10)).foldl (acW p r x y t) 0
/-- what is heard: how loud, by time -/
def hearT (p : Rw) (r : Nat) (x y : Int) (t : Nat) : Int := if louds p r x y t < p 8 then 0 else louds p r x y t
/-- how many of n times are heard -/
def cntT (f : Nat → Int) : Nat → Int
  | 0 => 0
  | n + 1 => cntT f n + (if 0 < f n then 1 else 0)
/-! ===== NUMBERS OF IMAGES ===== -/
theorem sq_le {x m : Int} (h1 : -m ≤ x) (h2 : x ≤ m) : 0 ≤ x * x ∧ x * x ≤ m * m := by
  by_cases hx : 0 ≤ x
  · exact ⟨Int.mul_nonneg hx hx, Int.mul_le_mul h2 h2 hx (by omega)⟩
  · have h3 : x * x = (-x) * (-x) := (Int.neg_mul_neg x x).symm
    rw [h3]
    exact ⟨Int.mul_nonneg (by omega) (by omega), Int.mul_le_mul (by omega) (by omega) (by omega) (by omega)⟩
theorem sq_lt {a b : Int} (ha : 0 ≤ a) (hb : 0 ≤ b) (h : a * a < b * b) : a < b := by
  apply Int.not_le.mp
  intro h2
  have := Int.mul_le_mul h2 h2 hb ha
  omega
theorem sqr_uniq {q a b : Int} (ha : 0 ≤ a) (hb : 0 ≤ b) (h1 : a * a ≤ q) (h2 : q < (a + 1) * (a + 1)) (h3 : b * b ≤ q) (h4 : q < (b + 1) * (b + 1)) : a = b := by
  have := sq_lt ha (by omega : (0:Int) ≤ b + 1) (by omega)
  have := sq_lt hb (by omega : (0:Int) ≤ a + 1) (by omega)
  omega
theorem sqf_spec (q : Int) : ∀ (n : Nat) (t : Int), 0 ≤ t → t * t ≤ q → q < (t + n + 1) * (t + n + 1) → t ≤ sqf n q t ∧ sqf n q t * sqf n q t ≤ q ∧ q < (sqf n q t + 1) * (sqf n q t + 1)
  | 0, t, h0, h1, h2 => ⟨Int.le_refl _, h1, by simpa [sqf] using h2⟩
  | n + 1, t, h0, h1, h2 => by
    unfold sqf
    split
    · rename_i h
      have := sqf_spec q n (t + 1) (by omega) h (by rw [show t + 1 + (n : Int) + 1 = t + ((n + 1 : Nat) : Int) + 1 by omega]; exact h2)
      exact ⟨by omega, this.2⟩
    · rename_i h
      exact ⟨Int.le_refl _, h1, by omega⟩
theorem sqr_spec {q : Int} (h0 : 0 ≤ q) (h1 : q < 4096) : 0 ≤ sqr q ∧ sqr q * sqr q ≤ q ∧ q < (sqr q + 1) * (sqr q + 1) := sqf_spec q 64 0 (by omega) (by omega) (by omega)
theorem sqr_is {q a : Int} (h0 : 0 ≤ q) (h1 : q < 4096) (ha : 0 ≤ a) (h2 : a * a ≤ q) (h3 : q < (a + 1) * (a + 1)) : a = sqr q := by
  obtain ⟨s0, s1, s2⟩ := sqr_spec h0 h1
  exact sqr_uniq ha s0 h2 h3 s1 s2
theorem i7 {i : Int} (h1 : -3 ≤ i) (h2 : i ≤ 3) : i = -3 ∨ i = -2 ∨ i = -1 ∨ i = 0 ∨ i = 1 ∨ i = 2 ∨ i = 3 := by omega
theorem ofs_b {i z p : Int} (h1 : -3 ≤ i) (h2 : i ≤ 3) (hz : 2 ≤ z ∧ z ≤ 12) (hp : 1 ≤ p ∧ p < z) : (-46 ≤ ofs i z p ∧ ofs i z p ≤ 46) ∧ ((-2 ≤ i ∧ i ≤ 2) → -24 ≤ ofs i z p ∧ ofs i z p ≤ 24) ∧ (i = 0 → ofs i z p = 0) ∧ (i ≠ 0 → ofs i z p ≤ -2 ∨ 2 ≤ ofs i z p) := by
  unfold ofs
  rcases i7 h1 h2 with h | h | h | h | h | h | h <;> subst h <;> simp <;> omega
theorem lohi {i : Int} (h1 : -3 ≤ i) (h2 : i ≤ 3) : loN i + hiN i = i.natAbs ∧ loN i ≤ 2 ∧ hiN i ≤ 2 := by
  unfold loN hiN
  rcases i7 h1 h2 with h | h | h | h | h | h | h <;> subst h <;> decide
theorem gvs_b (s : Int) : 0 ≤ gvs s ∧ gvs s ≤ 9 := by unfold gvs; repeat' split <;> omega
theorem dul_b {s : Int} : ∀ (n : Nat) {l : Int}, 0 ≤ l ∧ l ≤ 1000 → 0 ≤ dul l s n ∧ dul l s n ≤ 1000
  | 0, l, h => h
  | n + 1, l, h => by
    unfold dul
    have := gvs_b s
    have h3 : 0 ≤ l * gvs s := Int.mul_nonneg h.1 this.1
    have h4 : l * gvs s ≤ l * 9 := Int.mul_le_mul_of_nonneg_left this.2 h.1
    exact dul_b n ⟨by omega, by omega⟩
/-- an image that there is -/
def isIm (p : Rw) (r : Nat) (x y i j : Int) : Prop := (2 ≤ rW p r ∧ rW p r ≤ 12) ∧ (2 ≤ rD p r ∧ rD p r ≤ 12) ∧ (1 ≤ x ∧ x < rW p r) ∧ (1 ≤ y ∧ y < rD p r) ∧ (i.natAbs + j.natAbs ≤ 3) ∧ (i ≠ 0 ∨ j ≠ 0)
theorem im_q {p : Rw} {r : Nat} {x y i j : Int} (h : isIm p r x y i j) : (-46 ≤ ofs i (rW p r) x ∧ ofs i (rW p r) x ≤ 46) ∧ (-46 ≤ ofs j (rD p r) y ∧ ofs j (rD p r) y ≤ 46) ∧
    4 ≤ ofs i (rW p r) x * ofs i (rW p r) x + ofs j (rD p r) y * ofs j (rD p r) y ∧ ofs i (rW p r) x * ofs i (rW p r) x + ofs j (rD p r) y * ofs j (rD p r) y < 2304 := by
  obtain ⟨hw, hd, hx, hy, h3, h0⟩ := h
  have a := ofs_b (i := i) (p := x) (by omega) (by omega) hw hx
  have b := ofs_b (i := j) (p := y) (by omega) (by omega) hd hy
  have a1 := sq_le a.1.1 a.1.2
  have b1 := sq_le b.1.1 b.1.2
  refine ⟨a.1, b.1, ?_, ?_⟩
  · by_cases hi : i = 0
    · have hj : j ≠ 0 := by omega
      have : 2 * 2 ≤ ofs j (rD p r) y * ofs j (rD p r) y := by
        rcases b.2.2.2 hj with h | h
        · have := Int.mul_le_mul (show 2 ≤ -ofs j (rD p r) y by omega) (show 2 ≤ -ofs j (rD p r) y by omega) (by omega) (by omega)
          rwa [Int.neg_mul_neg] at this
        · exact Int.mul_le_mul h h (by omega) (by omega)
      omega
    · have : 2 * 2 ≤ ofs i (rW p r) x * ofs i (rW p r) x := by
        rcases a.2.2.2 hi with h | h
        · have := Int.mul_le_mul (show 2 ≤ -ofs i (rW p r) x by omega) (show 2 ≤ -ofs i (rW p r) x by omega) (by omega) (by omega)
          rwa [Int.neg_mul_neg] at this
        · exact Int.mul_le_mul h h (by omega) (by omega)
      omega
  · by_cases hi : i.natAbs = 3
    · have hj : j = 0 := by omega
      have := b.2.2.1 hj
      rw [this]
      omega
    · by_cases hj : j.natAbs = 3
      · have hi : i = 0 := by omega
        have := a.2.2.1 hi
        rw [this]
        omega
      · have a2 := a.2.1 (by omega)
        have b2 := b.2.1 (by omega)
        have a3 := sq_le a2.1 a2.2
        have b3 := sq_le b2.1 b2.2
        omega
theorem im_t {p : Rw} {r : Nat} {x y i j : Int} (h : isIm p r x y i j) : 2 ≤ imT p r x y i j ∧ imT p r x y i j ≤ 47 ∧
    imT p r x y i j * imT p r x y i j ≤ ofs i (rW p r) x * ofs i (rW p r) x + ofs j (rD p r) y * ofs j (rD p r) y ∧ ofs i (rW p r) x * ofs i (rW p r) x + ofs j (rD p r) y * ofs j (rD p r) y < (imT p r x y i j + 1) * (imT p r x y i j + 1) := by
  obtain ⟨-, -, h1, h2⟩ := im_q h
  obtain ⟨s0, s1, s2⟩ := sqr_spec (q := ofs i (rW p r) x * ofs i (rW p r) x + ofs j (rD p r) y * ofs j (rD p r) y) (by omega) (by omega)
  refine ⟨?_, ?_, s1, s2⟩
  · have := sq_lt (a := 2) (b := imT p r x y i j + 1) (by omega) (by unfold imT; omega) (by unfold imT; omega)
    omega
  · have := sq_lt (a := imT p r x y i j) (b := 48) (by unfold imT; omega) (by omega) (by unfold imT; omega)
    omega
/-- what is left of 1000 behind the walls -/
def im3 (p : Rw) (r : Nat) (i j : Int) : Int := dul (dul (dul (dul 1000 (rS p r 0) (loN i)) (rS p r 1) (hiN i)) (rS p r 2) (loN j)) (rS p r 3) (hiN j)
theorem im3_b (p : Rw) (r : Nat) (i j : Int) : 0 ≤ im3 p r i j ∧ im3 p r i j ≤ 1000 := dul_b _ (dul_b _ (dul_b _ (dul_b _ ⟨by omega, by omega⟩)))
theorem imL_eq (p : Rw) (r : Nat) (x y i j : Int) : imL p r x y i j = if (p 9 = 1 ∧ ofs i (rW p r) x < 0) ∨ (p 9 = 2 ∧ 0 < ofs i (rW p r) x) then im3 p r i j / imT p r x y i j / 2 else im3 p r i j / imT p r x y i j := rfl
theorem div_b {x y : Int} (hx : 0 ≤ x ∧ x ≤ 1000) (hy : 2 ≤ y) : 0 ≤ x / y ∧ x / y ≤ 1000 := by
  refine ⟨Int.ediv_nonneg hx.1 (by omega), ?_⟩
  have := Int.ediv_le_self y hx.1
  omega
theorem imL_b {p : Rw} {r : Nat} {x y i j : Int} (h : isIm p r x y i j) : 0 ≤ imL p r x y i j ∧ imL p r x y i j ≤ 1000 := by
  have h1 := im_t h
  have h2 := div_b (im3_b p r i j) h1.1
  rw [imL_eq]
  split <;> omega
