/-! ===== NUMBERS: what an instruction of the JVM does to Int32, said of whole numbers ===== -/
theorem o_add (x y : Int32) : (x + y).toInt = wr (x.toInt + y.toInt) := Int32.toInt_add x y
theorem o_sub (x y : Int32) : (x - y).toInt = wr (x.toInt - y.toInt) := Int32.toInt_sub x y
theorem o_mul (x y : Int32) : (x * y).toInt = wr (x.toInt * y.toInt) := Int32.toInt_mul x y
theorem o_div (x y : Int32) : (x / y).toInt = wr (x.toInt.tdiv y.toInt) := Int32.toInt_div x y
theorem o_neg (x : Int32) : (-x).toInt = wr (-x.toInt) := Int32.toInt_neg x
theorem o_inc (x : Int32) (n : Int) : (x + Int32.ofInt n).toInt = wr (x.toInt + n) := by
  have e : Int32.ofInt (x.toInt + n) = x + Int32.ofInt n := by rw [Int32.ofInt_add, Int32.ofInt_toInt]
  rw [← e, Int32.toInt_ofInt]; rfl
theorem o_rem (x y : Int32) (hy : y ≠ 0) : (x - x / y * y).toInt = x.toInt.tmod y.toInt := by
  have e : x - x / y * y = Int32.ofInt (x.toInt.tmod y.toInt) := by
    apply Int32.toInt.inj
    rw [Int32.toInt_ofInt]
    rw [Int32.toInt_sub, Int32.toInt_mul, Int32.toInt_div]
    rw [Int.tmod_def]
    show Int.bmod _ (2 ^ 32) = Int.bmod _ (2 ^ 32)
    simp only [Int.bmod_mul_bmod, Int.bmod_sub_bmod, Int.sub_bmod_bmod, Int.bmod_bmod, Int.mul_bmod_bmod, Int.mul_comm]
  rw [e]
  apply i32_of
  have h0 : y.toInt ≠ 0 := fun h => hy (Int32.toInt.inj (by rw [h]; rfl))
  have hx := r32_of x
  have h1 : (x.toInt.tmod y.toInt).natAbs ≤ x.toInt.natAbs := by
    rw [Int.natAbs_tmod]
    exact Nat.mod_le _ _
  have h2 : 0 ≤ x.toInt → 0 ≤ x.toInt.tmod y.toInt := fun h => Int.tmod_nonneg _ h
  have h3 := hx.1
  have h4 := hx.2
  constructor
  · omega
  · by_cases h5 : 0 ≤ x.toInt
    · have := h2 h5; omega
    · have h6 : x.toInt.tmod y.toInt ≤ 0 := by
        have := Int.tmod_nonneg y.toInt (a := -x.toInt) (by omega)
        rw [Int.neg_tmod] at this
        omega
      omega
theorem o_and (x y : Int32) : (x &&& y).toInt = xand x.toInt y.toInt := by unfold xand; rw [Int32.ofInt_toInt, Int32.ofInt_toInt]
theorem o_or (x y : Int32) : (x ||| y).toInt = xor_ x.toInt y.toInt := by unfold xor_; rw [Int32.ofInt_toInt, Int32.ofInt_toInt]
theorem o_xor (x y : Int32) : (x ^^^ y).toInt = xxor x.toInt y.toInt := by unfold xxor; rw [Int32.ofInt_toInt, Int32.ofInt_toInt]
theorem o_shl (x y : Int32) : (x <<< (y &&& 31)).toInt = xshl x.toInt y.toInt := by unfold xshl; rw [Int32.ofInt_toInt, Int32.ofInt_toInt]
theorem o_shr (x y : Int32) : (x >>> (y &&& 31)).toInt = xshr x.toInt y.toInt := by unfold xshr; rw [Int32.ofInt_toInt, Int32.ofInt_toInt]
theorem o_ushr (x y : Int32) : ((x.toUInt32 >>> (y.toUInt32 &&& Int32.toUInt32 31)).toInt32).toInt = xushr x.toInt y.toInt := by unfold xushr; rw [Int32.ofInt_toInt, Int32.ofInt_toInt]
theorem o_ladd (x y : Int64) : (x + y).toInt = wl (x.toInt + y.toInt) := Int64.toInt_add x y
theorem o_lmul (x y : Int64) : (x * y).toInt = wl (x.toInt * y.toInt) := Int64.toInt_mul x y
theorem o_ldiv (x y : Int64) : (x / y).toInt = wl (x.toInt.tdiv y.toInt) := Int64.toInt_div x y
theorem o_land (x y : Int64) : (x &&& y).toInt = xland x.toInt y.toInt := by unfold xland; rw [Int64.ofInt_toInt, Int64.ofInt_toInt]
theorem o_lor (x y : Int64) : (x ||| y).toInt = xlor x.toInt y.toInt := by unfold xlor; rw [Int64.ofInt_toInt, Int64.ofInt_toInt]
theorem o_lshl (x : Int64) (y : Int32) : (x <<< (y.toInt64 &&& 63)).toInt = xlshl x.toInt y.toInt := by unfold xlshl; rw [Int64.ofInt_toInt, Int32.ofInt_toInt]
theorem o_i2c (x : Int32) : ((x.toUInt32 % 65536).toInt32).toInt = xi2c x.toInt := by unfold xi2c; rw [Int32.ofInt_toInt]
theorem o_l2i (x : Int64) : x.toInt32.toInt = wr x.toInt := Int64.toInt_toInt32 x
theorem o_i2l (x : Int32) : x.toInt64.toInt = x.toInt := Int32.toInt_toInt64 x
theorem o_lit {n : Int} (h : r32 n) {w : Int32} (e : Int32.ofInt n = w) : w.toInt = n := by rw [← e]; exact i32_of h
theorem o_eq (x y : Int32) : x = y ↔ x.toInt = y.toInt := Int32.toInt_inj.symm
theorem o_lt (x y : Int32) : x < y ↔ x.toInt < y.toInt := Int32.lt_iff_toInt_lt
theorem o_le (x y : Int32) : x ≤ y ↔ x.toInt ≤ y.toInt := Int32.le_iff_toInt_le
theorem o_0 : (0 : Int32).toInt = 0 := rfl
theorem o_in {i : Int32} {z : Int} {n : Nat} (e : i.toInt = z) (h : 0 ≤ z ∧ z < (n : Int)) : vp_in i n := vp_in_iff.mpr (by rw [e]; exact h)
theorem o_clamp {i : Int32} {z : Int} (e : i.toInt = z) : i.toNatClampNeg = z.toNat := by rw [← e]; rfl
/-! ===== THE LISTS: what an instruction finds on the stack ===== -/
theorem xRS.c1 {ad : Nat → Nat} {n : Nat} {st : List Value} {x : xV} {xs : List xV} (h : xRS ad n st (x :: xs)) : ∃ v vs, st = v :: vs ∧ xRV ad n v x ∧ xRS ad n vs xs := by
  match st, h with
  | v :: vs, ⟨h1, h2⟩ => exact ⟨v, vs, rfl, h1, h2⟩
theorem xRS.i1 {ad : Nat → Nat} {n : Nat} {st : List Value} {x : Int} {xs : List xV} (h : xRS ad n st (.inl x :: xs)) : ∃ (w : Int32) (vs : List Value), st = .int w :: vs ∧ w.toInt = x ∧ xRS ad n vs xs := by
  obtain ⟨v, vs, rfl, ⟨w, rfl, e⟩, h2⟩ := h.c1
  exact ⟨w, vs, rfl, e, h2⟩
theorem xRS.l1 {ad : Nat → Nat} {n : Nat} {st : List Value} {x : Int} {xs : List xV} (h : xRS ad n st (.inr (.inl x) :: xs)) : ∃ (w : Int64) (vs : List Value), st = .long w :: vs ∧ w.toInt = x ∧ xRS ad n vs xs := by
  obtain ⟨v, vs, rfl, ⟨w, rfl, e⟩, h2⟩ := h.c1
  exact ⟨w, vs, rfl, e, h2⟩
theorem xRS.r1 {ad : Nat → Nat} {n : Nat} {st : List Value} {r : Nat} {xs : List xV} (h : xRS ad n st (.inr (.inr r) :: xs)) (h0 : r ≠ 0) : ∃ (vs : List Value), st = .ref (ad r) :: vs ∧ r < n ∧ xRS ad n vs xs := by
  obtain ⟨v, vs, rfl, h1, h2⟩ := h.c1
  rcases h1 with ⟨h1, -⟩ | ⟨-, h3, h4⟩
  · exact absurd h1 h0
  · exact ⟨vs, by rw [h4], h3, h2⟩
theorem xRS.a1 {ad : Nat → Nat} {n : Nat} {st : List Value} {r : Nat} {xs : List xV} (h : xRS ad n st (.inr (.inr r) :: xs)) : ∃ (q : Nat) (vs : List Value), st = .ref q :: vs ∧ xRV ad n (.ref q) (vr r) ∧ xRS ad n vs xs := by
  obtain ⟨v, vs, rfl, h1, h2⟩ := h.c1
  rcases h1 with ⟨h1, q, h4⟩ | ⟨h0, h3, h4⟩
  · exact ⟨q, vs, by rw [h4], Or.inl ⟨h1, q, rfl⟩, h2⟩
  · exact ⟨ad r, vs, by rw [h4], Or.inr ⟨h0, h3, rfl⟩, h2⟩
theorem xRS.i {ad : Nat → Nat} {n : Nat} {st : List Value} {w : Int32} {z : Int} {xs : List xV} (h : xRS ad n st xs) (e : w.toInt = z) : xRS ad n (.int w :: st) (vi z :: xs) := ⟨⟨w, rfl, e⟩, h⟩
theorem xRS.l {ad : Nat → Nat} {n : Nat} {st : List Value} {w : Int64} {z : Int} {xs : List xV} (h : xRS ad n st xs) (e : w.toInt = z) : xRS ad n (.long w :: st) (vl z :: xs) := ⟨⟨w, rfl, e⟩, h⟩
theorem xRS.r {ad : Nat → Nat} {n r : Nat} {st : List Value} {xs : List xV} (h : xRS ad n st xs) (h0 : r ≠ 0) (hr : r < n) : xRS ad n (.ref (ad r) :: st) (vr r :: xs) := ⟨Or.inr ⟨h0, hr, rfl⟩, h⟩
theorem xRL.gi {ad : Nat → Nat} {n nL : Nat} {ls : Array Slot} {als : List xV} (h : xRL ad n nL ls als) {i : Nat} {z : Int} (e : als[i]? = some (.inl z)) : ∃ w : Int32, ls[i]? = some (Slot.val (.int w)) ∧ w.toInt = z := by
  obtain ⟨v, h1, w, rfl, h2⟩ := h.2.2.2 i _ e (by simp [vr])
  exact ⟨w, h1, h2⟩
theorem xRL.gl {ad : Nat → Nat} {n nL : Nat} {ls : Array Slot} {als : List xV} (h : xRL ad n nL ls als) {i : Nat} {z : Int} (e : als[i]? = some (.inr (.inl z))) : ∃ w : Int64, ls[i]? = some (Slot.val (.long w)) ∧ w.toInt = z := by
  obtain ⟨v, h1, w, rfl, h2⟩ := h.2.2.2 i _ e (by simp [vr])
  exact ⟨w, h1, h2⟩
theorem xRL.gr {ad : Nat → Nat} {n nL : Nat} {ls : Array Slot} {als : List xV} (h : xRL ad n nL ls als) {i : Nat} {r : Nat} (e : als[i]? = some (.inr (.inr r))) (h0 : r ≠ 0) : ls[i]? = some (Slot.val (.ref (ad r))) ∧ r < n := by
  obtain ⟨v, h1, h2⟩ := h.2.2.2 i _ e (by intro q; cases q; exact h0 rfl)
  rcases h2 with ⟨h2, -⟩ | ⟨-, h3, h4⟩
  · exact absurd h2 h0
  · exact ⟨by rw [h1, h4], h3⟩
