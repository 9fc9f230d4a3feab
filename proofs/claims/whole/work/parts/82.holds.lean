/-! ===== CODE IS RUN BY THE CLASS ===== -/
def enc : List Bool → Int
  | [] => 0
  | a :: s => 2 * enc s + (if a then 1 else 0)
theorem enc_b : ∀ (s : List Bool), s.length ≤ 30 → 0 ≤ enc s ∧ enc s < 2 ^ s.length
  | [], _ => ⟨Int.le_refl _, by decide⟩
  | a :: s, h => by
    have := enc_b s (by have : s.length + 1 ≤ 30 := h; omega)
    unfold enc
    rw [List.length_cons, Int.pow_succ]
    split <;> omega
theorem enc_lt {s : List Bool} (h : s.length ≤ 30) : 0 ≤ enc s ∧ enc s < 1073741824 := by
  have h1 := enc_b s h
  have : (2 : Int) ^ s.length ≤ 2 ^ 30 := by
    have := Nat.pow_le_pow_right (n := 2) (by decide) h
    exact_mod_cast this
  have e : (2 : Int) ^ 30 = 1073741824 := by decide
  omega
theorem enc_bit : ∀ (s : List Bool) (i : Nat), s.length ≤ 30 → (enc s).toNat.testBit i = (s[i]?).getD false
  | [], i, _ => by
    show Nat.testBit 0 i = _
    simp
  | a :: s, i, h => by
    have hb := enc_b s (by have : s.length + 1 ≤ 30 := h; omega)
    have ih := fun i => enc_bit s i (by have : s.length + 1 ≤ 30 := h; omega)
    have e : (enc (a :: s)).toNat = 2 * (enc s).toNat + (if a then 1 else 0) := by
      show (2 * enc s + (if a then 1 else 0)).toNat = _
      cases a <;> simp <;> omega
    rw [e]
    cases i with
    | zero =>
      rw [Nat.testBit_zero]
      cases a <;> simp
    | succ i =>
      rw [Nat.testBit_succ, show (2 * (enc s).toNat + (if a then 1 else 0)) / 2 = (enc s).toNat by cases a <;> simp <;> omega, ih]
      simp
theorem enc_bv {s : List Bool} (h : s.length ≤ 30) {i : Nat} (hi : i < 32) : (Int32.ofInt (enc s)).toBitVec.getLsbD i = (s[i]?).getD false := by
  have hb := enc_lt h
  rw [← enc_bit s i h]
  show (BitVec.ofInt 32 (enc s)).getLsbD i = _
  rw [show enc s = (((enc s).toNat : Nat) : Int) by omega, BitVec.ofInt_natCast, BitVec.getLsbD_ofNat]
  simp [hi]
  rw [Int.max_eq_left hb.1]
theorem enc_of {w : Int32} {s : List Bool} (h : s.length ≤ 30) (hw : ∀ i, i < 32 → w.toBitVec.getLsbD i = (s[i]?).getD false) : w.toInt = enc s := by
  have hb := enc_lt h
  have e : w = Int32.ofInt (enc s) := by
    apply Int32.toBitVec_inj.mp
    apply BitVec.eq_of_getLsbD_eq
    intro i hi
    rw [hw i hi, enc_bv h hi]
  rw [e, Int32.toInt_ofInt_of_le (by have := hb.1; omega) (by have := hb.2; omega)]
theorem e_push {s : List Bool} {a : Bool} (h : s.length ≤ 20) : xor_ (xshl (enc s) 1) (if a then 1 else 0) = enc (a :: s) := by
  unfold xor_ xshl
  rw [Int32.ofInt_toInt]
  refine enc_of (by show s.length + 1 ≤ 30; omega) fun i hi => ?_
  show ((Int32.ofInt (enc s)).toBitVec <<< 1 ||| (Int32.ofInt (if a then 1 else 0)).toBitVec).getLsbD i = _
  rw [BitVec.getLsbD_or, BitVec.getLsbD_shiftLeft]
  cases i with
  | zero => cases a <;> simp <;> decide
  | succ i =>
    have : (Int32.ofInt (if a then 1 else 0)).toBitVec.getLsbD (i + 1) = false := by
      have hall : ∀ i : Fin 32, 1 ≤ i.1 → (Int32.ofInt 1).toBitVec.getLsbD i.1 = false ∧ (Int32.ofInt 0).toBitVec.getLsbD i.1 = false := by decide
      cases a
      · exact (hall ⟨i + 1, hi⟩ (by show 1 ≤ i + 1; omega)).2
      · exact (hall ⟨i + 1, hi⟩ (by show 1 ≤ i + 1; omega)).1
    rw [this, show i + 1 - 1 = i by omega, enc_bv (by omega) (by omega)]
    simp [hi]
theorem e_not {s : List Bool} {a : Bool} (h : s.length ≤ 20) : xxor (enc (a :: s)) 1 = enc ((!a) :: s) := by
  unfold xxor
  refine enc_of (by show s.length + 1 ≤ 30; omega) fun i hi => ?_
  show ((Int32.ofInt (enc (a :: s))).toBitVec ^^^ (Int32.ofInt 1).toBitVec).getLsbD i = _
  rw [BitVec.getLsbD_xor, enc_bv (by show s.length + 1 ≤ 30; omega) hi]
  cases i with
  | zero => cases a <;> simp <;> decide
  | succ i =>
    have hall : ∀ i : Fin 32, 1 ≤ i.1 → (Int32.ofInt 1).toBitVec.getLsbD i.1 = false := by decide
    rw [hall ⟨i + 1, hi⟩ (by show 1 ≤ i + 1; omega)]
    simp
theorem shr1 {w : Int32} {s : List Bool} (h : s.length ≤ 30) (hw : w = Int32.ofInt (enc s)) {i : Nat} (hi : i < 32) : (w >>> (Int32.ofInt 1 &&& 31)).toBitVec.getLsbD i = (s[i + 1]?).getD false := by
  have e2 : (w >>> (Int32.ofInt 1 &&& 31)).toBitVec = w.toBitVec.sshiftRight 1 := rfl
  rw [e2, BitVec.getLsbD_sshiftRight, hw]
  have msb : (Int32.ofInt (enc s)).toBitVec.msb = false := by
    rw [BitVec.msb_eq_getLsbD_last]
    have := enc_bv h (i := 31) (by omega)
    rw [show 32 - 1 = 31 from rfl, this, List.getElem?_eq_none (by omega)]
    rfl
  rw [msb]
  by_cases h31 : 1 + i < 32
  · rw [if_pos h31, Nat.add_comm 1 i, enc_bv h (by omega)]
    simp
    omega
  · rw [if_neg h31, List.getElem?_eq_none (by omega)]
    simp
theorem e_and {s : List Bool} {a e : Bool} (h : s.length ≤ 20) : xand (xshr (enc (a :: e :: s)) 1) (xor_ (enc (a :: e :: s)) (-2)) = enc ((e && a) :: s) := by
  unfold xand xshr xor_
  rw [Int32.ofInt_toInt, Int32.ofInt_toInt]
  have hl : (a :: e :: s).length ≤ 30 := by show s.length + 1 + 1 ≤ 30; omega
  refine enc_of (by show s.length + 1 ≤ 30; omega) fun i hi => ?_
  show ((Int32.ofInt (enc (a :: e :: s)) >>> (Int32.ofInt 1 &&& 31)).toBitVec &&& ((Int32.ofInt (enc (a :: e :: s))).toBitVec ||| (Int32.ofInt (-2)).toBitVec)).getLsbD i = _
  rw [BitVec.getLsbD_and, BitVec.getLsbD_or, shr1 hl rfl hi, enc_bv hl hi]
  have hall : ∀ i : Fin 32, (Int32.ofInt (-2)).toBitVec.getLsbD i.1 = decide (i.1 ≠ 0) := by decide
  rw [hall ⟨i, hi⟩]
  cases i with
  | zero => cases a <;> cases e <;> simp
  | succ i => simp
theorem e_or {s : List Bool} {a e : Bool} (h : s.length ≤ 20) : xor_ (xshr (enc (a :: e :: s)) 1) (xand (enc (a :: e :: s)) 1) = enc ((e || a) :: s) := by
  unfold xand xshr xor_
  rw [Int32.ofInt_toInt, Int32.ofInt_toInt]
  have hl : (a :: e :: s).length ≤ 30 := by show s.length + 1 + 1 ≤ 30; omega
  refine enc_of (by show s.length + 1 ≤ 30; omega) fun i hi => ?_
  show ((Int32.ofInt (enc (a :: e :: s)) >>> (Int32.ofInt 1 &&& 31)).toBitVec ||| ((Int32.ofInt (enc (a :: e :: s))).toBitVec &&& (Int32.ofInt 1).toBitVec)).getLsbD i = _
  rw [BitVec.getLsbD_or, BitVec.getLsbD_and, shr1 hl rfl hi, enc_bv hl hi]
  have hall : ∀ i : Fin 32, (Int32.ofInt 1).toBitVec.getLsbD i.1 = decide (i.1 = 0) := by decide
  rw [hall ⟨i, hi⟩]
  cases i with
  | zero => cases a <;> cases e <;> simp
  | succ i => simp
theorem e_low {s : List Bool} {a : Bool} (h : s.length ≤ 20) : xand (enc (a :: s)) 1 = if a then 1 else 0 := by
  unfold xand
  have hl : (a :: s).length ≤ 30 := by show s.length + 1 ≤ 30; omega
  have : (Int32.ofInt (enc (a :: s)) &&& Int32.ofInt 1).toInt = enc [a] := by
    refine enc_of (by show 1 ≤ 30; omega) fun i hi => ?_
    show ((Int32.ofInt (enc (a :: s))).toBitVec &&& (Int32.ofInt 1).toBitVec).getLsbD i = _
    rw [BitVec.getLsbD_and, enc_bv hl hi]
    have hall : ∀ i : Fin 32, (Int32.ofInt 1).toBitVec.getLsbD i.1 = decide (i.1 = 0) := by decide
    rw [hall ⟨i, hi⟩]
    cases i with
    | zero => simp
    | succ i => simp
  rw [this]
  cases a <;> rfl
/-! ===== code that runs ===== -/
def evOK (F : Nat → Int) (st op : Bool) : List Int → eSt → Prop
  | [], q => q.1.length ≤ 20
  | c :: l, q => q.1.length ≤ 20 ∧ (c = -6 → 1 ≤ q.1.length) ∧ ((c = -7 ∨ c = -8) → 2 ≤ q.1.length) ∧ (-8 ≤ c ∧ c < 1008) ∧ evOK F st op l (evC F st op c q)
theorem evOK_app {F : Nat → Int} {st op : Bool} : ∀ {l l' : List Int} {q : eSt}, evOK F st op l q → evOK F st op l' (evL F st op l q) → evOK F st op (l ++ l') q
  | [], _, _, _, h => h
  | c :: l, l', q, h, h' => ⟨h.1, h.2.1, h.2.2.1, h.2.2.2.1, evOK_app (l := l) h.2.2.2.2 h'⟩
def inr_ (F : Nat → Int) (st op : Bool) (l : List Int) (need inc : Nat) : Prop := ∀ q : eSt, q.1.length + need ≤ 20 → evOK F st op l q ∧ (evL F st op l q).1.length = q.1.length + inc
section WELL
variable {T : TK} {m N : Nat} {F : Nat → Int} {st op : Bool}
theorem pPart_c {i : Nat} {c : Int} (h : pPart T i = some c) : 0 ≤ c ∧ c < 1008 := by
  unfold pPart at h
  split at h
  · rename_i hx
    have hv := Classical.epsilon_spec hx
    cases h
    have := hv.2.2.2.1
    have := hv.2.2.2.2
    omega
  · (repeat' split at h) <;> first | (cases h; omega) | cases h
theorem pSum_in : ∀ (n i : Nat), rOk (pSum T n i) (fun j l => inr_ F st op l 0 0) (fun _ => True)
  | 0, i => trivial
  | n + 1, i => by
    unfold pSum
    cases hp : pPart T i with
    | none => trivial
    | some c =>
      have hc := pPart_c hp
      have one : ∀ (l : List Int), inr_ F st op l 0 0 → inr_ F st op (c :: l) 0 0 := by
        intro l hl q hq
        obtain ⟨s, u, lf⟩ := q
        have e := evC_part (F := F) (st := st) (op := op) (s := s) (u := u) (lf := lf) hc.1
        have := hl (s, wr (u + (if c < 1000 then c else F (c - 1000).toNat)), lf) hq
        refine ⟨⟨hq, fun h => by omega, fun h => by omega, by omega, by rw [e]; exact this.1⟩, ?_⟩
        rw [evL_cons, e]
        exact this.2
      have nil : inr_ F st op [] 0 0 := fun q hq => ⟨hq, rfl⟩
      dsimp only
      by_cases hs : kS T (i + 1) 43
      · rw [pif_y hs, rOk_bN]
        exact rOk_mono (fun j l _ h => one l h) (fun _ _ h => h) (pSum_in n (i + 2))
      · rw [pif_n hs]
        exact one [] nil
theorem in_app {l l' : List Int} {n1 i1 n2 i2 : Nat} (h : inr_ F st op l n1 i1) (h' : inr_ F st op l' n2 i2) {k : Nat} (hk1 : n1 ≤ k) (hk2 : i1 + n2 ≤ k) : inr_ F st op (l ++ l') k (i1 + i2) := by
  intro q hq
  have a := h q (by omega)
  have c := h' (evL F st op l q) (by omega)
  exact ⟨evOK_app a.1 c.1, by rw [evL_app, c.2, a.2]; omega⟩
/-- an operation on one truth, on two -/
theorem in_side (z : Int) (hz : z = -2 ∨ z = -3) {l l' : List Int} (h : inr_ F st op l 0 0) (h' : inr_ F st op l' 0 0) : inr_ F st op (l ++ (-1 :: l') ++ [z]) 1 1 := by
  have s1 : inr_ F st op (-1 :: l') 0 0 := by
    intro q hq
    have e : evC F st op (-1) q = (q.1, 0, q.2.1) := rfl
    have := h' (q.1, 0, q.2.1) hq
    rw [← e] at this
    refine ⟨⟨hq, fun e => absurd e (by decide), fun e => absurd e (by decide), by decide, this.1⟩, ?_⟩
    rw [evL_cons, this.2, e]
  have s2 : inr_ F st op [z] 1 1 := by
    intro q hq
    rcases hz with rfl | rfl
    · exact ⟨⟨by omega, fun e => absurd e (by decide), fun e => absurd e (by decide), by decide, by show q.1.length + 1 ≤ 20; omega⟩, rfl⟩
    · exact ⟨⟨by omega, fun e => absurd e (by decide), fun e => absurd e (by decide), by decide, by show q.1.length + 1 ≤ 20; omega⟩, rfl⟩
  have := in_app (in_app h s1 (Nat.le_refl _) (Nat.le_refl _)) s2 (k := 1) (by omega) (by omega)
  exact this
theorem op1 {q : eSt} {n : Nat} (h1 : q.1.length = n + 1) (h2 : n + 1 ≤ 20) : evOK F st op [-6] q ∧ (evL F st op [-6] q).1.length = n + 1 := by
  obtain ⟨s, u, lf⟩ := q
  cases s with
  | nil => cases h1
  | cons a s =>
    have e : evC F st op (-6) (a :: s, u, lf) = ((!a) :: s, u, lf) := rfl
    refine ⟨⟨by rw [h1]; exact h2, fun _ => by rw [h1]; omega, fun e => absurd e (by decide), by decide, ?_⟩, ?_⟩
    · rw [e]; show s.length + 1 ≤ 20; have : s.length + 1 = n + 1 := h1; omega
    · rw [evL_cons, e]; exact h1
theorem op2 {q : eSt} {n : Nat} {z : Int} (hz : z = -7 ∨ z = -8) (h1 : q.1.length = n + 2) (h2 : n + 2 ≤ 20) : evOK F st op [z] q ∧ (evL F st op [z] q).1.length = n + 1 := by
  obtain ⟨s, u, lf⟩ := q
  match s, h1 with
  | [], h1 => cases h1
  | [a], h1 => have : 1 = n + 2 := h1; omega
  | a :: c :: s, h1 =>
    have hs : s.length + 1 + 1 = n + 2 := h1
    rcases hz with rfl | rfl
    · have e : evC F st op (-7) (a :: c :: s, u, lf) = ((c && a) :: s, u, lf) := rfl
      refine ⟨⟨by rw [h1]; exact h2, fun e => absurd e (by decide), fun _ => by rw [h1]; omega, by decide, ?_⟩, ?_⟩
      · rw [e]; show s.length + 1 ≤ 20; omega
      · rw [evL_cons, e]; show s.length + 1 = n + 1; omega
    · have e : evC F st op (-8) (a :: c :: s, u, lf) = ((c || a) :: s, u, lf) := rfl
      refine ⟨⟨by rw [h1]; exact h2, fun e => absurd e (by decide), fun _ => by rw [h1]; omega, by decide, ?_⟩, ?_⟩
      · rw [e]; show s.length + 1 ≤ 20; omega
      · rw [evL_cons, e]; show s.length + 1 = n + 1; omega
def nd0 (dp : Nat) : Nat := 1 + 2 * (6 - dp)
/-- behind a truth: parts of and, of or -/
def tl_ (F : Nat → Int) (st op : Bool) (l : List Int) (need : Nat) : Prop := ∀ q : eSt, 1 ≤ q.1.length → q.1.length + need ≤ 20 → evOK F st op l q ∧ (evL F st op l q).1.length = q.1.length
theorem tl_step {l1 l2 : List Int} {z : Int} {k : Nat} (hz : z = -7 ∨ z = -8) (hk : 1 ≤ k) (h1 : inr_ F st op l1 k 1) (h2 : tl_ F st op l2 k) : tl_ F st op (l1 ++ [z] ++ l2) k := by
  intro q hq1 hq
  have a := h1 q hq
  have c := op2 (F := F) (st := st) (op := op) (q := evL F st op l1 q) (n := q.1.length - 1) hz (by rw [a.2]; omega) (by omega)
  have e := h2 (evL F st op [z] (evL F st op l1 q)) (by rw [c.2]; omega) (by rw [c.2]; omega)
  refine ⟨evOK_app (evOK_app a.1 c.1) (by rw [evL_app]; exact e.1), ?_⟩
  rw [evL_app, evL_app, e.2, c.2]
  omega
theorem tl_join {l1 l2 : List Int} {k : Nat} (hk : 1 ≤ k) (h1 : inr_ F st op l1 k 1) (h2 : tl_ F st op l2 k) : inr_ F st op (l1 ++ l2) (k + 1) 1 := by
  intro q hq
  have a := h1 q (by omega)
  have c := h2 (evL F st op l1 q) (by omega) (by omega)
  exact ⟨evOK_app a.1 c.1, by rw [evL_app, c.2, a.2]⟩
theorem pG_in : ∀ (n : Nat), (∀ dp i, dp ≤ 6 → rOk (pG T n 0 dp i) (fun j l => inr_ F st op l (nd0 dp) 1) (fun _ => True)) ∧ (∀ dp i, dp ≤ 6 → rOk (pG T n 1 dp i) (fun j l => inr_ F st op l (nd0 dp + 1) 1) (fun _ => True)) ∧ (∀ dp i, dp ≤ 6 → rOk (pG T n 2 dp i) (fun j l => tl_ F st op l (nd0 dp)) (fun _ => True)) ∧ (∀ dp i, dp ≤ 6 → rOk (pG T n 3 dp i) (fun j l => inr_ F st op l (nd0 dp + 2) 1) (fun _ => True)) ∧ (∀ dp i, dp ≤ 6 → rOk (pG T n 4 dp i) (fun j l => tl_ F st op l (nd0 dp + 1)) (fun _ => True)) := by
  intro n
  induction n with
  | zero => exact ⟨fun _ _ _ => trivial, fun _ _ _ => trivial, fun _ _ _ => trivial, fun _ _ _ => trivial, fun _ _ _ => trivial⟩
  | succ n ih =>
    obtain ⟨i0, i1, i2, i3, i4⟩ := ih
    have one : ∀ z : Int, (z = -4 ∨ z = -5) → ∀ dp, inr_ F st op [z] (nd0 dp) 1 := by
      intro z hz dp q hq
      have hn : 1 ≤ nd0 dp := by unfold nd0; omega
      rcases hz with rfl | rfl
      · exact ⟨⟨by omega, fun e => absurd e (by decide), fun e => absurd e (by decide), by decide, by show q.1.length + 1 ≤ 20; omega⟩, rfl⟩
      · exact ⟨⟨by omega, fun e => absurd e (by decide), fun e => absurd e (by decide), by decide, by show q.1.length + 1 ≤ 20; omega⟩, rfl⟩
    refine ⟨fun dp i hdp => ?_, fun dp i hdp => ?_, fun dp i hdp => ?_, fun dp i hdp => ?_, fun dp i hdp => ?_⟩
    · rw [pG_0]
      by_cases h1 : kW T i (wdS 43)
      · rw [pif_y h1]
        by_cases h6 : dp = 6
        · rw [pif_y h6]; trivial
        · rw [pif_n h6, rOk_bN]
          refine rOk_mono (fun j l _ h => ?_) (fun _ _ h => h) (i0 (dp + 1) (i + 1) (by omega))
          show inr_ F st op (l ++ [-6]) (nd0 dp) 1
          intro q hq
          have hn : nd0 (dp + 1) ≤ nd0 dp ∧ 1 ≤ nd0 dp := by unfold nd0; omega
          have a := h q (by omega)
          have c := op1 (F := F) (st := st) (op := op) (q := evL F st op l q) (n := q.1.length) a.2 (by omega)
          exact ⟨evOK_app a.1 c.1, by rw [evL_app, c.2]⟩
      · rw [pif_n h1]
        by_cases h2 : kS T i 40
        · rw [pif_y h2]
          by_cases h6 : dp = 6
          · rw [pif_y h6]; trivial
          · rw [pif_n h6, rOk_bN]
            refine rOk_mono (fun j l _ h => ?_) (fun _ _ h => h) (i3 (dp + 1) (i + 1) (by omega))
            by_cases h5 : kS T j 41
            · rw [pif_y h5]
              show inr_ F st op l (nd0 dp) 1
              intro q hq
              have hn : nd0 (dp + 1) + 2 = nd0 dp := by unfold nd0; omega
              exact h q (by omega)
            · rw [pif_n h5]; trivial
        · rw [pif_n h2]
          by_cases h3 : kW T i (wdS 44)
          · rw [pif_y h3]; exact one (-4) (Or.inl rfl) dp
          · rw [pif_n h3]
            by_cases h4 : kW T i (wdS 45)
            · rw [pif_y h4]; exact one (-5) (Or.inr rfl) dp
            · rw [pif_n h4, rOk_bN]
              refine rOk_mono (fun j l _ h => ?_) (fun _ _ h => h) (pSum_in (F := F) (st := st) (op := op) n i)
              have cmp : ∀ z : Int, (z = -2 ∨ z = -3) → rOk (bN (pSum T n (j + 1)) (fun j' l' => (j', some (l ++ (-1 :: l') ++ [z])))) (fun j l => inr_ F st op l (nd0 dp) 1) (fun _ => True) := by
                intro z hz
                rw [rOk_bN]
                refine rOk_mono (fun j' l' _ h' => ?_) (fun _ _ h => h) (pSum_in (F := F) (st := st) (op := op) n (j + 1))
                show inr_ F st op (l ++ (-1 :: l') ++ [z]) (nd0 dp) 1
                have hs := in_side z hz h h'
                intro q hq
                have hn : 1 ≤ nd0 dp := by unfold nd0; omega
                exact hs q (by omega)
              by_cases h5 : kS T j 60
              · rw [pif_y h5]; exact cmp _ (Or.inl rfl)
              · rw [pif_n h5]
                by_cases h6 : kS T j 62
                · rw [pif_y h6]; exact cmp _ (Or.inr rfl)
                · rw [pif_n h6]; trivial
    · show rOk (bN (pG T n 0 dp i) (fun j l => bN (pG T n 2 dp j) (fun j' l' => (j', some (l ++ l'))))) _ _
      rw [rOk_bN]
      refine rOk_mono (fun j l _ h => ?_) (fun _ _ h => h) (i0 dp i hdp)
      rw [rOk_bN]
      exact rOk_mono (fun j' l' _ h' => tl_join (by unfold nd0; omega) h h') (fun _ _ h => h) (i2 dp j hdp)
    · rw [pG_2]
      by_cases h1 : kW T i (wdS 54)
      · rw [pif_y h1, rOk_bN]
        refine rOk_mono (fun j l _ h => ?_) (fun _ _ h => h) (i0 dp (i + 1) hdp)
        rw [rOk_bN]
        exact rOk_mono (fun j' l' _ h' => tl_step (Or.inl rfl) (by unfold nd0; omega) h h') (fun _ _ h => h) (i2 dp j hdp)
      · rw [pif_n h1]
        exact fun q _ hq => ⟨by show q.1.length ≤ 20; omega, rfl⟩
    · show rOk (bN (pG T n 1 dp i) (fun j l => bN (pG T n 4 dp j) (fun j' l' => (j', some (l ++ l'))))) _ _
      rw [rOk_bN]
      refine rOk_mono (fun j l _ h => ?_) (fun _ _ h => h) (i1 dp i hdp)
      rw [rOk_bN]
      exact rOk_mono (fun j' l' _ h' => tl_join (by omega) h h') (fun _ _ h => h) (i4 dp j hdp)
    · rw [pG_4]
      by_cases h1 : kW T i (wdS 55)
      · rw [pif_y h1, rOk_bN]
        refine rOk_mono (fun j l _ h => ?_) (fun _ _ h => h) (i1 dp (i + 1) hdp)
        rw [rOk_bN]
        exact rOk_mono (fun j' l' _ h' => tl_step (Or.inr rfl) (by omega) h h') (fun _ _ h => h) (i4 dp j hdp)
      · rw [pif_n h1]
        exact fun q _ hq => ⟨by show q.1.length ≤ 20; omega, rfl⟩
/-- a line as it may be read -/
def lnOK (x : Ln) : Prop := (x.1 = 0 ∨ x.1 = 1 ∨ x.1 = 2) ∧ (0 ≤ x.2.1 ∧ x.2.1 ≤ 50 ∧ (x.1 = 2 → x.2.1 = 0)) ∧ ∀ F st op, evOK F st op x.2.2 ([true], 0, 0) ∧ 1 ≤ (evL F st op x.2.2 ([true], 0, 0)).1.length
theorem pLine_ok (hT : okT T m N) {i : Nat} (hi : i ≤ N) : qOk (pLine T i) (fun j x => lnOK x) (fun _ => True) := by
  have hb := pLine_bd hT hi
  have tl : ∀ (k w : Int) (j : Nat), qOk (pTl T k w j) (fun j x => ∀ F st op, evOK F st op x.2.2 ([true], 0, 0) ∧ 1 ≤ (evL F st op x.2.2 ([true], 0, 0)).1.length) (fun _ => True) := by
    intro k w j
    unfold pTl pIf
    by_cases h : kW T j (wdS 42)
    · rw [pif_y h]
      have hin := fun F st op => (pG_in (T := T) (F := F) (st := st) (op := op) 3000).2.2.2.1 0 (j + 1) (by omega)
      obtain ⟨⟨j1, o⟩, hr⟩ : ∃ r, r = pG T 3000 3 0 (j + 1) := ⟨_, rfl⟩
      rw [← hr] at hin ⊢
      cases o with
      | none => trivial
      | some l => exact fun F st op => ⟨((hin F st op) ([true], 0, 0) (by show 1 + (nd0 0 + 2) ≤ 20; decide)).1, by rw [((hin F st op) ([true], 0, 0) (by show 1 + (nd0 0 + 2) ≤ 20; decide)).2]; omega⟩
    · rw [pif_n h]
      exact fun F st op => ⟨by show 1 ≤ 20; decide, Nat.le_refl 1⟩
  have key : qOk (pLine T i) (fun j x => ∀ F st op, evOK F st op x.2.2 ([true], 0, 0) ∧ 1 ≤ (evL F st op x.2.2 ([true], 0, 0)).1.length) (fun _ => True) := by
    unfold pLine pWt
    by_cases h1 : kW T i (wdS 39)
    · rw [qif_y h1]
      by_cases h : ∃ v, kN T (i + 1) 0 50 v
      · rw [qif_y h]; exact tl _ _ _
      · rw [qif_n h]; trivial
    · rw [qif_n h1]
      by_cases h2 : kW T i (wdS 40)
      · rw [qif_y h2]
        by_cases h : ∃ v, kN T (i + 1) 0 50 v
        · rw [qif_y h]; exact tl _ _ _
        · rw [qif_n h]; trivial
      · rw [qif_n h2]
        by_cases h3 : kW T i (wdS 41)
        · rw [qif_y h3]; exact tl _ _ _
        · rw [qif_n h3]; trivial
  obtain ⟨⟨j, o⟩, hr⟩ : ∃ r, r = pLine T i := ⟨_, rfl⟩
  rw [← hr] at hb key ⊢
  cases o with
  | none => trivial
  | some x => exact ⟨hb.2.2.2.1, hb.2.2.2.2, key⟩
theorem pLs_ok (hT : okT T m N) : ∀ (n i : Nat), i ≤ N → qOk (pLs T N n i) (fun j ls => (∀ x ∈ ls, lnOK x) ∧ ls.length ≤ n ∧ (ls.map (fun x => x.2.2.length)).sum ≤ 2 * (N - i) ∧ 1 ≤ ls.length) (fun _ => True)
  | 0, i, hi => trivial
  | n + 1, i, hi => by
    unfold pLs
    have hb := pLine_bd hT hi
    have hk := pLine_ok hT hi
    obtain ⟨⟨j, o⟩, hr⟩ : ∃ r, r = pLine T i := ⟨_, rfl⟩
    rw [← hr] at hb hk ⊢
    cases o with
    | none => trivial
    | some x =>
      have hij : i < j := hb.1
      have hjN : j ≤ N := hb.2.1
      have hl : x.2.2.length ≤ 2 * (j - i) := hb.2.2.1
      have hk : lnOK x := hk
      show qOk (qif (j = N) (j, some [x]) (qif (kS T j 59) (match pLs T N n (j + 1) with | (e, none) => (e, none) | (j', some r) => (j', some (x :: r))) (j, none))) _ _
      by_cases ej : j = N
      · rw [qif_y ej]
        refine ⟨fun y hy => ?_, by show 1 ≤ n + 1; omega, ?_, Nat.le_refl 1⟩
        · rcases List.mem_singleton.mp hy with rfl; exact hk
        · show x.2.2.length + 0 ≤ _; omega
      · rw [qif_n ej]
        by_cases hs : kS T j 59
        · rw [qif_y hs]
          have hlt := kS_lt hT hjN hs
          have ih := pLs_ok hT n (j + 1) hlt
          obtain ⟨⟨j', o'⟩, hr'⟩ : ∃ r, r = pLs T N n (j + 1) := ⟨_, rfl⟩
          rw [← hr'] at ih ⊢
          cases o' with
          | none => trivial
          | some r =>
            obtain ⟨c1, c2, c3, c4⟩ := ih
            refine ⟨fun y hy => ?_, by show r.length + 1 ≤ n + 1; omega, ?_, by show 1 ≤ r.length + 1; omega⟩
            · rcases List.mem_cons.mp hy with rfl | hy
              · exact hk
              · exact c1 y hy
            · show x.2.2.length + (r.map (fun x => x.2.2.length)).sum ≤ _; omega
        · rw [qif_n hs]; trivial
theorem pLaw_ok (hT : okT T m N) (hm : m ≤ 400) : qOk (pLaw T N) (fun j ls => (∀ x ∈ ls, lnOK x) ∧ ls.length ≤ 12 ∧ (ls.map (fun x => x.2.2.length)).sum ≤ 800) (fun _ => True) := by
  unfold pLaw
  have hN := hT.1
  by_cases h : N = 0
  · rw [if_pos h]
    exact ⟨fun x hx => (nomatch hx), by show 0 ≤ 12; omega, by show 0 ≤ 800; omega⟩
  · rw [if_neg h]
    exact qOk_mono (fun j ls _ hh => ⟨hh.1, hh.2.1, by omega⟩) (fun _ _ h => h) (pLs_ok hT 12 0 (Nat.zero_le _))
end WELL
