/-! ===== WHOM ONE POINTS TO; RINGS ===== -/
def pk (E : Nat → Int) (ok : Nat → Bool) (t : Nat) : Nat → Int × Int
  | 0 => (-1, 0)
  | k + 1 => if ok k = true ∧ ((pk E ok t k).1 = -1 ∨ (pk E ok t k).2 < E k ∨ (E k = (pk E ok t k).2 ∧ k = t)) then ((k : Int), E k) else pk E ok t k
def better (E : Nat → Int) (t q o : Nat) : Prop := E o < E q ∨ (E o = E q ∧ (q = t ∨ (o ≠ t ∧ q ≤ o)))
def isPk (E : Nat → Int) (ok : Nat → Bool) (t : Nat) (S : Nat → Prop) (z : Int × Int) : Prop := (z.1 = -1 ∧ ∀ o, S o → ok o = false) ∨ ∃ q : Nat, z.1 = (q : Int) ∧ S q ∧ ok q = true ∧ z.2 = E q ∧ ∀ o, S o → ok o = true → better E t q o
theorem pk_is {E : Nat → Int} {ok : Nat → Bool} {t : Nat} : ∀ k, isPk E ok t (fun o => o < k) (pk E ok t k)
  | 0 => Or.inl ⟨rfl, fun o h => absurd h (Nat.not_lt_zero _)⟩
  | k + 1 => by
    have ih := pk_is (E := E) (ok := ok) (t := t) k
    unfold pk
    by_cases hc : ok k = true ∧ ((pk E ok t k).1 = -1 ∨ (pk E ok t k).2 < E k ∨ (E k = (pk E ok t k).2 ∧ k = t))
    · rw [if_pos hc]
      refine Or.inr ⟨k, rfl, Nat.lt_succ_self k, hc.1, rfl, fun o ho hok => ?_⟩
      by_cases e : o = k
      · subst e
        right
        refine ⟨rfl, ?_⟩
        by_cases et : o = t
        · exact Or.inl et
        · exact Or.inr ⟨et, Nat.le_refl _⟩
      · have ho' : o < k := by have : o < k + 1 := ho; omega
        rcases ih with ⟨e1, e2⟩ | ⟨q, e1, e2, e3, e4, e5⟩
        · rw [e2 o ho'] at hok; cases hok
        · have hb := e5 o ho' hok
          rcases hc.2 with g | g | g
          · omega
          · left
            rw [e4] at g
            rcases hb with hb | hb
            · omega
            · omega
          · rw [e4] at g
            rcases hb with hb | hb
            · left; omega
            · right
              exact ⟨by omega, Or.inl g.2⟩
    · rw [if_neg hc]
      rcases ih with ⟨e1, e2⟩ | ⟨q, e1, e2, e3, e4, e5⟩
      · refine Or.inl ⟨e1, fun o ho => ?_⟩
        by_cases e : o = k
        · subst e
          cases hx : ok o
          · rfl
          · exact absurd ⟨hx, Or.inl e1⟩ hc
        · exact e2 o (by have : o < k + 1 := ho; show o < k; omega)
      · refine Or.inr ⟨q, e1, by have : q < k := e2; show q < k + 1; omega, e3, e4, fun o ho hok => ?_⟩
        by_cases e : o = k
        · subst e
          have e2' : q < o := e2
          by_cases h1 : E o < E q
          · exact Or.inl h1
          · right
            have h2 : ¬ (pk E ok t o).2 < E o := fun g => hc ⟨hok, Or.inr (Or.inl g)⟩
            rw [e4] at h2
            have h3 : E o = E q := by omega
            have h4 : o ≠ t := fun g => hc ⟨hok, Or.inr (Or.inr ⟨by rw [e4]; exact h3, g⟩)⟩
            exact ⟨h3, Or.inr ⟨h4, by omega⟩⟩
        · exact e5 o (by have : o < k + 1 := ho; show o < k; omega) hok
theorem isPk.uni {E : Nat → Int} {ok : Nat → Bool} {t : Nat} {S S' : Nat → Prop} {z z' : Int × Int} (hS : ∀ o, S o ↔ S' o) (h : isPk E ok t S z) (h' : isPk E ok t S' z') : z.1 = z'.1 := by
  rcases h with ⟨a1, a2⟩ | ⟨q, a1, a2, a3, a4, a5⟩ <;> rcases h' with ⟨b1, b2⟩ | ⟨q', b1, b2, b3, b4, b5⟩
  · rw [a1, b1]
  · have := a2 q' ((hS q').mpr b2); rw [this] at b3; cases b3
  · have := b2 q ((hS q).mp a2); rw [this] at a3; cases a3
  · have h1 := a5 q' ((hS q').mpr b2) b3
    have h2 := b5 q ((hS q).mp a2) a3
    have : q = q' := by
      rcases h1 with h1 | ⟨h1, h3⟩ <;> rcases h2 with h2 | ⟨h2, h4⟩
      · omega
      · omega
      · omega
      · rcases h3 with h3 | h3 <;> rcases h4 with h4 | h4
        · omega
        · omega
        · omega
        · omega
    rw [a1, b1, this]
/-! rings of any function -/
def itf (f : Nat → Nat) : Nat → Nat → Nat
  | 0, t => t
  | k + 1, t => f (itf f k t)
theorem itf_add {f : Nat → Nat} {t : Nat} (a : Nat) : ∀ c, itf f (a + c) t = itf f c (itf f a t)
  | 0 => rfl
  | c + 1 => by
    show f (itf f (a + c) t) = f (itf f c (itf f a t))
    rw [itf_add a c]
def isRg (f : Nat → Nat) (t : Nat) : Prop := ∃ k, 1 ≤ k ∧ itf f k t = t
theorem php : ∀ (n : Nat) (g : Nat → Nat), (∀ i, i ≤ n → g i < n) → ∃ i j, i < j ∧ j ≤ n ∧ g i = g j
  | 0, g, h => absurd (h 0 (Nat.le_refl _)) (Nat.not_lt_zero _)
  | n + 1, g, h => by
    by_cases hx : ∃ i, i ≤ n ∧ g i = g (n + 1)
    · obtain ⟨i, h1, h2⟩ := hx
      exact ⟨i, n + 1, by omega, Nat.le_refl _, h2⟩
    · have hx : ∀ i, i ≤ n → g i ≠ g (n + 1) := fun i hi he => hx ⟨i, hi, he⟩
      obtain ⟨i, j, h1, h2, h3⟩ := php n (fun i => if g i = n then g (n + 1) else g i) (fun i hi => by
        have a := h i (by omega)
        have b := h (n + 1) (Nat.le_refl _)
        have c := hx i hi
        split <;> omega)
      refine ⟨i, j, h1, by omega, ?_⟩
      have ci := hx i (by omega)
      have cj := hx j h2
      split at h3 <;> split at h3 <;> omega
section RING
variable {f : Nat → Nat} {L : Nat → Prop} {n : Nat}
theorem itf_in (hf : ∀ t, L t → L (f t)) {t : Nat} (ht : L t) : ∀ k, L (itf f k t)
  | 0 => ht
  | k + 1 => hf _ (itf_in hf ht k)
theorem itf_per {k t : Nat} (h : itf f k t = t) : ∀ m, itf f (m * k) t = t
  | 0 => by rw [Nat.zero_mul]; rfl
  | m + 1 => by rw [Nat.succ_mul, itf_add, itf_per h m, h]
theorem rg_n (hf : ∀ t, L t → L (f t)) (hL : ∀ t, L t → t < n) {t : Nat} (ht : L t) (h : isRg f t) : ∃ k, 1 ≤ k ∧ k ≤ n ∧ itf f k t = t := by
  obtain ⟨k, hk, he⟩ := h
  obtain ⟨i, j, h1, h2, h3⟩ := php n (fun i => itf f i t) (fun i _ => hL _ (itf_in hf ht i))
  refine ⟨j - i, by omega, by omega, ?_⟩
  have hm : i ≤ i * k := Nat.le_mul_of_pos_right _ hk
  have a1 : itf f (i * k) t = itf f (i * k - i) (itf f i t) := by rw [← itf_add]; congr 1; omega
  have a2 : itf f (i * k + (j - i)) t = itf f (i * k - i) (itf f j t) := by rw [← itf_add]; congr 1; omega
  rw [← h3, ← a1, itf_add, itf_per he] at a2
  exact a2
theorem rg_ex (hf : ∀ t, L t → L (f t)) (hL : ∀ t, L t → t < n) {t : Nat} (ht : L t) : ∃ s, L s ∧ isRg f s := by
  obtain ⟨i, j, h1, h2, h3⟩ := php n (fun i => itf f i t) (fun i _ => hL _ (itf_in hf ht i))
  refine ⟨itf f i t, itf_in hf ht i, j - i, by omega, ?_⟩
  rw [← itf_add, show i + (j - i) = j by omega]
  exact h3.symm
end RING
/-! of tenants -/
def okP (p : Rw) (ls : List Ln) (left : Int) (t o : Nat) : Bool := tb left o && !rFR p ls t (tL_ p o).toNat
def esP (p : Rw) (ls : List Ln) (t o : Nat) : Int := eR p ls t (tL_ p o).toNat
def ptI (p : Rw) (ls : List Ln) (left : Int) (t : Nat) : Int := if (pk (esP p ls t) (okP p ls left t) t (p 4).toNat).1 = -1 then (t : Int) else (pk (esP p ls t) (okP p ls left t) t (p 4).toNat).1
def ptN (p : Rw) (ls : List Ln) (left : Int) (t : Nat) : Nat := (ptI p ls left t).toNat
noncomputable def rgB (p : Rw) (ls : List Ln) (left : Int) (t : Nat) : Bool := @decide (isRg (ptN p ls left) t) (Classical.propDecidable _)
noncomputable def rdF (p : Rw) (ls : List Ln) (left : Int) : Int := bitsT (fun j => tb left j && !rgB p ls left j) 5
def lodB (p : Rw) : Int := bitsT (fun t => decide (tL_ p t ≠ -1)) (p 4).toNat
noncomputable def lvF (p : Rw) (ls : List Ln) : Nat → Int
  | 0 => lodB p
  | k + 1 => rdF p ls (lvF p ls k)
noncomputable def gtF (p : Rw) (ls : List Ln) : Nat → Nat → Int
  | 0, _ => -1
  | k + 1, j => if (tb (lvF p ls k) j && rgB p ls (lvF p ls k) j) = true then ptI p ls (lvF p ls k) j else gtF p ls k j
noncomputable def tradeF (p : Rw) (ls : List Ln) (t : Nat) : Int := gtF p ls (p 4).toNat t
/-- tenants that are left have a lodging -/
def lfP (p : Rw) (left : Int) : Prop := (0 ≤ left ∧ left < 32) ∧ ∀ o, o < 5 → tb left o = true → (o : Int) < p 4 ∧ tL_ p o ≠ -1
theorem rgB_iff {p : Rw} {ls : List Ln} {left : Int} {t : Nat} : rgB p ls left t = true ↔ isRg (ptN p ls left) t := by
  unfold rgB
  exact @decide_eq_true_iff _ (Classical.propDecidable _)
theorem tb_rd {p : Rw} {ls : List Ln} {left : Int} {j : Nat} (hj : j < 5) : tb (rdF p ls left) j = (tb left j && !rgB p ls left j) := by
  unfold rdF
  rw [tb_bitsT hj (Nat.le_refl _), decide_eq_true hj, Bool.true_and]
theorem rd_b {p : Rw} {ls : List Ln} {left : Int} : 0 ≤ rdF p ls left ∧ rdF p ls left < 32 := bitsT_lt (Nat.le_refl _)
theorem lfP.rd {p : Rw} {ls : List Ln} {left : Int} (h : lfP p left) : lfP p (rdF p ls left) := by
  refine ⟨rd_b, fun o ho ht => ?_⟩
  rw [tb_rd ho, Bool.and_eq_true] at ht
  exact h.2 o ho ht.1
theorem lfP.lv {p : Rw} {ls : List Ln} (hW : WF p) : ∀ k, lfP p (lvF p ls k)
  | 0 => by
    have h4 := hW.2.1
    refine ⟨bitsT_lt (by omega), fun o ho ht => ?_⟩
    have ht : tb (lodB p) o = true := ht
    unfold lodB at ht
    rw [tb_bitsT ho (by omega), Bool.and_eq_true, decide_eq_true_iff, decide_eq_true_iff] at ht
    exact ⟨by omega, ht.2⟩
  | k + 1 => (lfP.lv hW k).rd
theorem ptI_q {p : Rw} {ls : List Ln} {left : Int} (hl : lfP p left) {t : Nat} (ht : t < 5) (h : tb left t = true) : ∃ q : Nat, ptI p ls left t = (q : Int) ∧ q < 5 ∧ tb left q = true := by
  unfold ptI
  split
  · exact ⟨t, rfl, ht, h⟩
  · rename_i hn
    rcases pk_is (E := esP p ls t) (ok := okP p ls left t) (t := t) (p 4).toNat with ⟨e, _⟩ | ⟨q, e1, e2, e3, _⟩
    · exact absurd e hn
    · have e3 : (tb left q && !rFR p ls t (tL_ p q).toNat) = true := e3
      rw [Bool.and_eq_true] at e3
      by_cases hq : q < 5
      · exact ⟨q, e1, hq, e3.1⟩
      · exfalso
        have : tb left q = false := by
          unfold tb
          apply Nat.testBit_lt_two_pow
          have h2 : 2 ^ 5 ≤ 2 ^ q := Nat.pow_le_pow_right (by decide) (by omega)
          have := hl.1
          omega
        rw [this] at e3
        exact absurd e3.1 (by decide)
theorem ptN_in {p : Rw} {ls : List Ln} {left : Int} (hl : lfP p left) : ∀ t, (t < 5 ∧ tb left t = true) → (ptN p ls left t < 5 ∧ tb left (ptN p ls left t) = true) := by
  intro t ht
  obtain ⟨q, e, h1, h2⟩ := ptI_q (ls := ls) hl ht.1 ht.2
  unfold ptN
  rw [e, nn_toNat]
  exact ⟨h1, h2⟩
/-- rounds end: who is left in round k has k before him -/
theorem lv_card {p : Rw} {ls : List Ln} (hW : WF p) : ∀ k, lvF p ls k = 0 ∨ cntB (tb (lvF p ls k)) 5 + (k : Int) ≤ p 4
  | 0 => by
    right
    have h4 := hW.2.1
    have := pc_le (x := lvF p ls 0) (n := (p 4).toNat) (lfP.lv hW 0).1 (by omega) (fun j hj ht => by have := ((lfP.lv (ls := ls) hW 0).2 j hj ht).1; omega)
    omega
  | k + 1 => by
    have hl := lfP.lv (ls := ls) hW k
    have hl2 := lfP.lv (ls := ls) hW (k + 1)
    have sub : ∀ j, j < 5 → tb (lvF p ls (k + 1)) j = true → tb (lvF p ls k) j = true := by
      intro j hj ht
      have ht : tb (rdF p ls (lvF p ls k)) j = true := ht
      rw [tb_rd hj, Bool.and_eq_true] at ht
      exact ht.1
    rcases lv_card (ls := ls) hW k with e | e
    · left
      refine tb_ext hl2.1 (by omega) fun j hj => ?_
      rw [tb0]
      cases hx : tb (lvF p ls (k + 1)) j
      · rfl
      · have := sub j hj hx
        rw [e, tb0] at this
        cases this
    · by_cases h0 : lvF p ls k = 0
      · left
        refine tb_ext hl2.1 (by omega) fun j hj => ?_
        rw [tb0]
        cases hx : tb (lvF p ls (k + 1)) j
        · rfl
        · have := sub j hj hx
          rw [h0, tb0] at this
          cases this
      · right
        have hne : lvF p ls (k + 1) ≠ lvF p ls k := by
          intro he
          -- somebody is left, so there is a ring
          have hex : ∃ t, t < 5 ∧ tb (lvF p ls k) t = true := Classical.byContradiction fun g => h0 (tb_ext hl.1 (by omega) fun j hj => by
            rw [tb0]
            cases hx : tb (lvF p ls k) j
            · rfl
            · exact absurd ⟨j, hj, hx⟩ g)
          obtain ⟨t, ht⟩ := hex
          obtain ⟨s, hs, hr⟩ := rg_ex (n := 5) (ptN_in (ls := ls) hl) (fun _ h => h.1) ht
          have h1 : tb (rdF p ls (lvF p ls k)) s = false := by
            rw [tb_rd hs.1, rgB_iff.mpr hr, Bool.not_true, Bool.and_false]
          have h2 : tb (lvF p ls (k + 1)) s = true := by rw [he]; exact hs.2
          rw [show lvF p ls (k + 1) = rdF p ls (lvF p ls k) from rfl, h1] at h2
          cases h2
        have := pc_lt hl2.1 hl.1 sub hne
        omega
theorem lv_ltN {p : Rw} {ls : List Ln} (hW : WF p) {k t : Nat} (ht : t < 5) (h : tb (lvF p ls k) t = true) : (k : Int) + 1 ≤ p 4 := by
  have hl := lfP.lv (ls := ls) hW k
  rcases lv_card (ls := ls) hW k with e | e
  · rw [e, tb0] at h; cases h
  · have := pc_pos hl.1 ht h
    omega
theorem gt_pre {p : Rw} {ls : List Ln} (hW : WF p) {t : Nat} (ht : t < 5) : ∀ k, tb (lvF p ls k) t = true → gtF p ls k t = -1
  | 0, _ => rfl
  | k + 1, h => by
    have h : tb (rdF p ls (lvF p ls k)) t = true := h
    rw [tb_rd ht, Bool.and_eq_true, Bool.not_eq_true'] at h
    unfold gtF
    rw [h.2, Bool.and_false, if_neg (by decide)]
    exact gt_pre hW ht k h.1
theorem gt_post {p : Rw} {ls : List Ln} (hW : WF p) {t k : Nat} (ht : t < 5) (h : tb (lvF p ls k) t = false) : ∀ m, gtF p ls (k + m) t = gtF p ls k t ∧ tb (lvF p ls (k + m)) t = false
  | 0 => ⟨rfl, h⟩
  | m + 1 => by
    obtain ⟨i1, i2⟩ := gt_post hW ht h m
    refine ⟨?_, ?_⟩
    · show (if (tb (lvF p ls (k + m)) t && rgB p ls (lvF p ls (k + m)) t) = true then ptI p ls (lvF p ls (k + m)) t else gtF p ls (k + m) t) = _
      rw [i2, Bool.false_and, if_neg (by decide)]
      exact i1
    · show tb (rdF p ls (lvF p ls (k + m))) t = false
      rw [tb_rd ht, i2, Bool.false_and]
/-- what one gets: in the round in which he is in a ring -/
theorem trade_at {p : Rw} {ls : List Ln} (hW : WF p) {t k : Nat} (ht : t < 5) (h : tb (lvF p ls k) t = true) (hr : rgB p ls (lvF p ls k) t = true) : tradeF p ls t = ptI p ls (lvF p ls k) t := by
  have hk := lv_ltN hW ht h
  have h1 : gtF p ls (k + 1) t = ptI p ls (lvF p ls k) t := by
    unfold gtF
    rw [h, hr, Bool.true_and, if_pos rfl]
  have h2 : tb (lvF p ls (k + 1)) t = false := by
    show tb (rdF p ls (lvF p ls k)) t = false
    rw [tb_rd ht, hr, Bool.not_true, Bool.and_false]
  have h3 := (gt_post hW ht h2 ((p 4).toNat - (k + 1))).1
  unfold tradeF
  rw [show (p 4).toNat = k + 1 + ((p 4).toNat - (k + 1)) by omega, h3, h1]
theorem trade_none {p : Rw} {ls : List Ln} (hW : WF p) {t : Nat} (ht : t < 5) (h : tL_ p t = -1) : tradeF p ls t = -1 := by
  have h2 : tb (lvF p ls 0) t = false := by
    cases hx : tb (lvF p ls 0) t
    · rfl
    · exact absurd h ((lfP.lv (ls := ls) hW 0).2 t ht hx).2
  have h3 := (gt_post (ls := ls) hW ht h2 (p 4).toNat).1
  unfold tradeF
  rw [Nat.zero_add] at h3
  rw [h3]
  rfl
