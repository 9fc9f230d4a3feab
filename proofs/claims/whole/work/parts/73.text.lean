/-! ===== THINGS OF A TEXT ===== -/
def wdS (a : Nat) : List Int := (xbytL.getD (a - 3) []).map (fun x => (x &&& 255).toInt)
def Ws (V : xF) : Prop := ∀ a, 3 ≤ a → a < 70 → ∀ j, V a j = (wdS a).getD j 0
theorem wdS_K {a : Nat} (h1 : 3 ≤ a) (h2 : a < 70) (kd : Nat → Nat × Nat) : yK kd a = (26, (wdS a).length) := by
  have hall : ∀ a : Fin 70, 3 ≤ a.1 → yK0 a.1 = (26, (wdS a.1).length) := by decide +kernel
  have := hall ⟨a, h2⟩ h1
  unfold yK
  rw [show Nat.blt a 421 = true by rw [Nat.blt_eq]; omega, show Nat.beq a 1 = false by cases h : Nat.beq a 1 with | true => exact absurd (Nat.eq_of_beq_eq_true h) (by omega) | false => rfl]
  exact this
theorem wdS_len {a : Nat} (h2 : a < 70) : (wdS a).length ≤ 7 := by
  have hall : ∀ a : Fin 70, (wdS a.1).length ≤ 7 := by decide +kernel
  exact hall ⟨a, h2⟩
theorem wdS_pos {a : Nat} (h1 : 3 ≤ a) (h2 : a < 70) : 1 ≤ (wdS a).length := by
  have hall : ∀ a : Fin 70, 3 ≤ a.1 → 1 ≤ (wdS a.1).length := by decide +kernel
  exact hall ⟨a, h2⟩ h1
def kof (c : Int) : Int := if 97 ≤ c ∧ c ≤ 122 then 1 else if 48 ≤ c ∧ c ≤ 57 then 2 else 0
def psE (E : Nat → Int) (i : Nat) : Int := if i = 0 then 0 else E (i - 1)
def tkP (b : Nat → Int) (m : Nat) (k s e : Int) : Prop := 0 ≤ s ∧ s < e ∧ e ≤ (m : Int) ∧ b s.toNat ≠ 32 ∧ (∀ j : Nat, s ≤ (j : Int) → (j : Int) < e → kof (b j) = k) ∧ (k = 0 → e = s + 1) ∧ (k ≠ 0 → e < (m : Int) → kof (b e.toNat) ≠ k)
def IsTok (b : Nat → Int) (m N : Nat) (K B E : Nat → Int) : Prop := N ≤ m ∧ K N = 3 ∧ B N = (m : Int) ∧ E N = (m : Int) ∧ (∀ i, i < N → tkP b m (K i) (B i) (E i)) ∧ ∀ i, i ≤ N → 0 ≤ psE E i ∧ psE E i ≤ B i ∧ ∀ j : Nat, psE E i ≤ (j : Int) → (j : Int) < B i → b j = 32
/-- the thing is this word, this sign, this number -/
def tW (b : Nat → Int) (K B E : Nat → Int) (i : Nat) (s : List Int) : Prop := K i = 1 ∧ E i - B i = (s.length : Int) ∧ ∀ k, k < s.length → b ((B i).toNat + k) = s.getD k 0
def tSg (b : Nat → Int) (K B : Nat → Int) (i : Nat) (c : Int) : Prop := K i = 0 ∧ b (B i).toNat = c
def nvl (b : Nat → Int) (s : Nat) : Nat → Int
  | 0 => 0
  | n + 1 => 10 * nvl b s n + b (s + n) - 48
def tN (b : Nat → Int) (K B E : Nat → Int) (i : Nat) (lo hi v : Int) : Prop := K i = 2 ∧ E i - B i ≤ 3 ∧ v = nvl b (B i).toNat (E i - B i).toNat ∧ lo ≤ v ∧ v ≤ hi
theorem tW_uni {b : Nat → Int} {K B E : Nat → Int} {i : Nat} {s s' : List Int} (h : tW b K B E i s) (h' : tW b K B E i s') : s = s' := by
  have e : s.length = s'.length := by have := h.2.1; have := h'.2.1; omega
  refine List.ext_getElem e fun k h1 h2 => ?_
  have a := h.2.2 k h1
  have c := h'.2.2 k h2
  rw [a, List.getD_eq_getElem?_getD, List.getD_eq_getElem?_getD, List.getElem?_eq_getElem h1, List.getElem?_eq_getElem h2] at c
  exact c
theorem tN_uni {b : Nat → Int} {K B E : Nat → Int} {i : Nat} {lo hi v lo' hi' v' : Int} (h : tN b K B E i lo hi v) (h' : tN b K B E i lo' hi' v') : v = v' := by rw [h.2.2.1, h'.2.2.1]
section TEXT
variable {d : Nat} {V : xF} {D : yD} {Q : xRes → xF → yD → Prop} {b : Nat → Int} {m N : Nat}
theorem IsTok.tk {K B E : Nat → Int} (h : IsTok b m N K B E) {i : Nat} (hi : i < N) : tkP b m (K i) (B i) (E i) := h.2.2.2.2.1 i hi
theorem IsTok.gap {K B E : Nat → Int} (h : IsTok b m N K B E) {i : Nat} (hi : i ≤ N) : 0 ≤ psE E i ∧ psE E i ≤ B i ∧ ∀ j : Nat, psE E i ≤ (j : Int) → (j : Int) < B i → b j = 32 := h.2.2.2.2.2 i hi
theorem IsTok.bnd {K B E : Nat → Int} (h : IsTok b m N K B E) {i : Nat} (hi : i ≤ N) : 0 ≤ B i ∧ B i ≤ E i ∧ E i ≤ (m : Int) ∧ (i < N → B i < E i) := by
  by_cases e : i = N
  · subst e
    have := h.2.2.1
    have := h.2.2.2.1
    omega
  · obtain ⟨t1, t2, t3, -⟩ := h.tk (show i < N by omega)
    omega
theorem IsTok.lt {K B E : Nat → Int} (h : IsTok b m N K B E) {i : Nat} (hi : i ≤ N) (hk : K i ≠ 3) : i < N := by
  apply Classical.byContradiction
  intro hc
  have : i = N := by omega
  subst this
  exact hk h.2.1
/-- the kind of a thing by its first letter -/
theorem IsTok.kind {K B E : Nat → Int} (h : IsTok b m N K B E) {i : Nat} (hi : i < N) : K i = kof (b (B i).toNat) ∧ (B i).toNat < m ∧ ∀ k : Nat, (k : Int) < E i - B i → kof (b ((B i).toNat + k)) = K i := by
  obtain ⟨t1, t2, t3, t4, t5, t6, t7⟩ := h.tk hi
  refine ⟨(t5 (B i).toNat (by omega) (by omega)).symm, by omega, fun k hk => t5 _ (by omega) (by omega)⟩
/-! ===== the model's state of reading: where it is, what is wrong, how deep ===== -/
def mst (V : xF) (a f dp : Int) : xF := up2 (up2 (up2 V 405 11 a) 405 12 f) 405 13 dp
theorem mst_11 {a f dp : Int} : mst V a f dp 405 11 = a := by unfold mst; rw [up2_ni (by decide), up2_ni (by decide), up2_at]
theorem mst_12 {a f dp : Int} : mst V a f dp 405 12 = f := by unfold mst; rw [up2_ni (by decide), up2_at]
theorem mst_13 {a f dp : Int} : mst V a f dp 405 13 = dp := by unfold mst; rw [up2_at]
theorem mst_k {a f dp : Int} {k : Nat} (h1 : k ≠ 11) (h2 : k ≠ 12) (h3 : k ≠ 13) : mst V a f dp 405 k = V 405 k := by unfold mst; rw [up2_ni h3, up2_ni h2, up2_ni h1]
theorem mst_n {a f dp : Int} {c : Nat} (h : c ≠ 405) : mst V a f dp c = V c := by unfold mst; rw [up2_na h, up2_na h, up2_na h]
theorem mst_w11 {a f dp z : Int} : up2 (mst V a f dp) 405 11 z = mst V z f dp := by
  funext c j
  unfold mst up2
  (repeat' split) <;> first | rfl | omega
theorem mst_w12 {a f dp z : Int} : up2 (mst V a f dp) 405 12 z = mst V a z dp := by
  funext c j
  unfold mst up2
  (repeat' split) <;> first | rfl | omega
theorem mst_w13 {a f dp z : Int} : up2 (mst V a f dp) 405 13 z = mst V a f z := by
  funext c j
  unfold mst up2
  (repeat' split) <;> first | rfl | omega
/-- what is read, and from where -/
def MT (V : xF) (b : Nat → Int) (m : Nat) : Prop := V 405 10 = (m : Int) ∧ m ≤ 400 ∧ ((V 405 9 = -1 ∧ ∀ k, k < m → V 410 k = b k) ∨ (V 405 9 = 331 ∧ ∀ k, k < m → V 406 (331 + k) = b k))
theorem mt301 {a f dp : Int} {k : Nat} (hM : MT V b m) (hk : k < m) : yg_301 (k : Int) (mst V a f dp) D ∧ yr_301 (k : Int) (mst V a f dp) D = b k := by
  obtain ⟨h10, h400, h⟩ := hM
  unfold yg_301 yr_301
  rw [mst_k (by decide) (by decide) (by decide), mst_n (by decide), mst_n (by decide), nn_toNat]
  rcases h with ⟨h1, h2⟩ | ⟨h1, h2⟩
  · rw [h1, if_pos rfl, h2 k hk]
    exact ⟨⟨fun h5 => absurd rfl h5, fun _ => by omega⟩, rfl⟩
  · rw [h1, if_neg (by decide), wr_id (x := 331 + (k : Int)) (by omega) (by omega), show (331 + (k : Int)).toNat = 331 + k by omega, h2 k hk]
    exact ⟨⟨fun _ => by omega, fun h5 => by omega⟩, rfl⟩
variable {K B E : Nat → Int}
theorem m_skip {i : Nat} {a f dp : Int} (hT : IsTok b m N K B E) (hM : MT V b m) (hi : i ≤ N) (ha : psE E i ≤ a ∧ a ≤ B i) (h : Q (.inl none) (mst V (B i) f dp) D) : RY d 228 0 [vr 405] [] (mst V a f dp) D Q := by
  have hg := hT.gap hi
  have hb := hT.bnd hi
  have main : ∀ (n : Nat) (a : Int), a + n = B i → psE E i ≤ a → RY d 228 0 [vr 405] [] (mst V a f dp) D Q := by
    intro n
    induction n with
    | zero =>
      intro a h1 h2
      have : a = B i := by omega
      subst this
      refine u_228_0 ?_
      rw [mst_11, mst_k (by decide) (by decide) (by decide), hM.1]
      refine ⟨fun _ => h, fun h5 => ?_⟩
      have hlt : i < N := by
        apply Classical.byContradiction
        intro hc
        have : i = N := by omega
        subst this
        have := hT.2.2.1
        omega
      have t := hT.tk hlt
      have y := mt301 (a := B i) (f := f) (dp := dp) (D := D) (k := (B i).toNat) hM (by omega)
      rw [show (((B i).toNat : Nat) : Int) = B i by omega] at y
      refine ⟨y.1, ?_⟩
      rw [y.2]
      exact ⟨fun _ => h, fun h6 => absurd h6 t.2.2.2.1⟩
    | succ n ih =>
      intro a h1 h2
      have hm := hb.2.2.1
      refine u_228_0 ?_
      rw [mst_11, mst_k (by decide) (by decide) (by decide), hM.1]
      refine ⟨fun h5 => by omega, fun h5 => ?_⟩
      have y := mt301 (a := a) (f := f) (dp := dp) (D := D) (k := a.toNat) hM (by omega)
      rw [show ((a.toNat : Nat) : Int) = a by omega] at y
      refine ⟨y.1, ?_⟩
      rw [y.2, hg.2.2 a.toNat (by omega) (by omega)]
      refine ⟨fun h6 => absurd rfl h6, fun _ => ?_⟩
      rintro V1 rfl
      rw [mst_w11, wr_id (by have := hM.2.1; omega) (by have := hM.2.1; omega)]
      exact ih (a + 1) (by omega) (by omega)
  exact main (B i - a).toNat a (by omega) ha.1
theorem kof_l {c : Int} : kof c = 1 ↔ (97 ≤ c ∧ c ≤ 122) := by
  unfold kof
  (repeat' split) <;> omega
theorem kof_d {c : Int} : kof c = 2 ↔ (48 ≤ c ∧ c ≤ 57) := by
  unfold kof
  (repeat' split) <;> omega
theorem m_sign {i : Nat} {a f dp c : Int} (hT : IsTok b m N K B E) (hM : MT V b m) (hi : i ≤ N) (ha : psE E i ≤ a ∧ a ≤ B i) (hc : kof c = 0) (h1 : tSg b K B i c → Q (.inl (some (vi 1))) (mst V (B i) f dp) D) (h0 : ¬ tSg b K B i c → Q (.inl (some (vi 0))) (mst V (B i) f dp) D) : RY d 232 0 [vr 405, vi c] [] (mst V a f dp) D Q := by
  have hb := hT.bnd hi
  refine u_232_0 (m_skip hT hM hi ha (u_232_4 ?_))
  rw [mst_11, mst_k (by decide) (by decide) (by decide), hM.1]
  refine ⟨fun h5 => h0 (fun ht => ?_), fun h5 => ?_⟩
  · have hlt := hT.lt hi (by rw [ht.1]; decide)
    have := hb.2.2.2 hlt
    omega
  · have y := mt301 (a := B i) (f := f) (dp := dp) (D := D) (k := (B i).toNat) hM (by omega)
    rw [show (((B i).toNat : Nat) : Int) = B i by omega] at y
    refine ⟨y.1, ?_⟩
    rw [y.2]
    refine ⟨fun h6 => h0 (fun ht => h6 ht.2), fun h6 => h1 ⟨?_, h6⟩⟩
    have hlt : i < N := by
      apply Classical.byContradiction
      intro hc
      have : i = N := by omega
      subst this
      have := hT.2.2.1
      omega
    rw [(hT.kind hlt).1, h6, hc]
theorem m_here {i : Nat} {a f dp : Int} (hT : IsTok b m N K B E) (hM : MT V b m) (hi : i ≤ N) (ha : psE E i ≤ a ∧ a ≤ B i) (h : Q (.inl (some (vi (B i)))) (mst V (B i) f dp) D) : RY d 305 0 [vr 405] [] (mst V a f dp) D Q := by
  refine u_305_0 (m_skip hT hM hi ha (u_305_4 ?_))
  rw [mst_11]
  exact h
/-- how many letters there are from the beginning of a thing -/
theorem run_len (hT : IsTok b m N K B E) {i : Nat} (hi : i ≤ N) (q : Int) (hq : q = 1 ∨ q = 2) (k : Nat) (hk : (B i) + (k : Int) ≤ (m : Int)) (hrun : ∀ j, j < k → kof (b ((B i).toNat + j)) = q) : (K i = q → (k : Int) ≤ E i - B i) ∧ (K i ≠ q → k = 0) ∧ ((B i + (k : Int) < (m : Int) ∧ kof (b ((B i).toNat + k)) = q) → K i = q ∧ (k : Int) < E i - B i) ∧ (¬ (B i + (k : Int) < (m : Int) ∧ kof (b ((B i).toNat + k)) = q) → K i = q → (k : Int) = E i - B i) := by
  have hb := hT.bnd hi
  have a1 : K i = q → (k : Int) ≤ E i - B i := by
    intro h
    apply Classical.byContradiction
    intro hc
    have hlt := hT.lt hi (by rw [h]; rcases hq with e | e <;> rw [e] <;> decide)
    have t := hT.tk hlt
    have := hrun (E i - B i).toNat (by omega)
    refine t.2.2.2.2.2.2 (by rw [h]; rcases hq with e | e <;> rw [e] <;> decide) (by omega) ?_
    rw [h, ← this]
    congr 2
    omega
  have a2 : K i ≠ q → k = 0 := by
    intro h
    apply Classical.byContradiction
    intro hc
    have hlt : i < N := by
      apply Classical.byContradiction
      intro hc2
      have e : i = N := by omega
      subst e
      have := hT.2.2.1
      omega
    have := hrun 0 (by omega)
    exact h (by rw [(hT.kind hlt).1]; exact this)
  have first : (B i + (k : Int) < (m : Int) ∧ kof (b ((B i).toNat + k)) = q) → K i = q ∧ (k : Int) < E i - B i := by
    rintro ⟨h1, h2⟩
    have hlt : i < N := by
      apply Classical.byContradiction
      intro hc2
      have e : i = N := by omega
      subst e
      have := hT.2.2.1
      omega
    have hK : K i = q := by
      apply Classical.byContradiction
      intro hc
      have e := a2 hc
      subst e
      exact hc (by rw [(hT.kind hlt).1]; exact h2)
    refine ⟨hK, ?_⟩
    have := a1 hK
    apply Classical.byContradiction
    intro hc
    have t := hT.tk hlt
    refine t.2.2.2.2.2.2 (by rw [hK]; rcases hq with e | e <;> rw [e] <;> decide) (by omega) ?_
    rw [hK, ← h2]
    congr 2
    omega
  refine ⟨a1, a2, first, fun h1 h2 => ?_⟩
  have := a1 h2
  apply Classical.byContradiction
  intro hc
  have hlt := hT.lt hi (by rw [h2]; rcases hq with e | e <;> rw [e] <;> decide)
  have hk2 := (hT.kind hlt).2.2 k (by omega)
  exact h1 ⟨by omega, by rw [hk2, h2]⟩
theorem m_has {i w : Nat} {a f dp : Int} (hT : IsTok b m N K B E) (hM : MT V b m) (hw1 : 3 ≤ w) (hw2 : w < 70) (hV : ∀ j, V w j = (wdS w).getD j 0) (hi : i ≤ N) (ha : psE E i ≤ a ∧ a ≤ B i)
    (h1 : tW b K B E i (wdS w) → Q (.inl (some (vi 1))) (mst V (E i) f dp) D) (h0 : ¬ tW b K B E i (wdS w) → Q (.inl (some (vi 0))) (mst V (B i) f dp) D) : RY d 302 0 [vr 405, vr w, vr 0, vr 0] [] (mst V a f dp) D Q := by
  have hb := hT.bnd hi
  have hm4 := hM.2.1
  have hK := wdS_K hw1 hw2 D.2.2.1
  have hl := wdS_len hw2
  have hp := wdS_pos hw1 hw2
  refine u_302_0 (m_skip hT hM hi ha (u_302_4 ?_))
  rw [mst_11]
  -- the text is compared
  have cmp : K i = 1 → E i - B i = ((wdS w).length : Int) → ∀ (n k : Nat), k + n = (wdS w).length → (∀ j, j < k → b ((B i).toNat + j) = (wdS w).getD j 0) → RY d 302 55 [vr 405, vr w, vi (E i), vi (k : Int)] [] (mst V (B i) f dp) D Q := by
    intro hk1 hE n
    induction n with
    | zero =>
      intro k hk hall
      refine u_302_55 ?_
      rw [hK]
      refine ⟨by omega, rfl, rfl, fun _ => ?_, fun h5 => by omega⟩
      rintro V1 rfl
      rw [mst_w11]
      exact h1 ⟨hk1, hE, fun j hj => hall j (by omega)⟩
    | succ n ih =>
      intro k hk hall
      refine u_302_55 ?_
      rw [hK, mst_11, wr_id (x := B i + (k : Int)) (by omega) (by omega), wr_id (x := (k : Int) + 1) (by omega) (by omega), mst_n (by omega), hV, nn_toNat]
      have y := mt301 (a := B i) (f := f) (dp := dp) (D := D) (k := (B i).toNat + k) hM (by omega)
      rw [show (((B i).toNat + k : Nat) : Int) = B i + (k : Int) by omega] at y
      refine ⟨by omega, rfl, rfl, fun h5 => by omega, fun _ => ⟨y.1, by omega, rfl, rfl, by omega, ?_⟩⟩
      rw [y.2]
      refine ⟨fun h6 => ih (k + 1) (by omega) (fun j hj => ?_), fun h6 => h0 (fun ht => h6 (ht.2.2 k (by omega)))⟩
      by_cases e : j = k
      · subst e; exact h6
      · exact hall j (by omega)
  have fin : ∀ (k : Nat), B i + (k : Int) ≤ (m : Int) → (∀ j, j < k → kof (b ((B i).toNat + j)) = 1) → ¬ (B i + (k : Int) < (m : Int) ∧ kof (b ((B i).toNat + k)) = 1) → (w ≠ 0 ∧ (yK D.2.2.1 w).1 = 26 ∧ Nat.ble 1 8 = true ∧ (((wr (B i + (k : Int) - B i)) = (((yK D.2.2.1 w).2 : Int)) → RY d 302 55 [vr 405, vr w, vi (B i + (k : Int)), vi 0] [] (mst V (B i) f dp) D Q) ∧ ((wr (B i + (k : Int) - B i)) ≠ (((yK D.2.2.1 w).2 : Int)) → Q (.inl (some (vi 0))) (mst V (B i) f dp) D))) := by
    intro k hk hrun hend
    obtain ⟨r1, r2, r3, r4⟩ := run_len hT hi 1 (Or.inl rfl) k hk hrun
    rw [hK, wr_id (by omega) (by omega)]
    refine ⟨by omega, rfl, rfl, fun h5 => ?_, fun h5 => h0 (fun ht => ?_)⟩
    · have hk1 : K i = 1 := by
        apply Classical.byContradiction
        intro hc
        have := r2 hc
        dsimp only at h5
        omega
      have e := r4 hend hk1
      dsimp only at h5
      rw [show B i + (k : Int) = E i by omega]
      exact cmp hk1 (by omega) (wdS w).length 0 (by omega) (fun j hj => by omega)
    · have e := r4 hend ht.1
      have := ht.2.1
      dsimp only at h5
      omega
  have scan : ∀ (n k : Nat), B i + (k : Int) + n = (m : Int) → (∀ j, j < k → kof (b ((B i).toNat + j)) = 1) → RY d 302 9 [vr 405, vr w, vi (B i + (k : Int)), vr 0] [] (mst V (B i) f dp) D Q := by
    intro n
    induction n with
    | zero =>
      intro k hk hrun
      refine u_302_9 ?_
      rw [mst_11, mst_k (by decide) (by decide) (by decide), hM.1]
      exact ⟨fun _ => fin k (by omega) hrun (fun hc => by omega), fun h5 => by omega⟩
    | succ n ih =>
      intro k hk hrun
      refine u_302_9 ?_
      rw [mst_11, mst_k (by decide) (by decide) (by decide), hM.1]
      have y := mt301 (a := B i) (f := f) (dp := dp) (D := D) (k := (B i).toNat + k) hM (by omega)
      rw [show (((B i).toNat + k : Nat) : Int) = B i + (k : Int) by omega] at y
      refine ⟨fun h5 => by omega, fun _ => ⟨y.1, ?_⟩⟩
      rw [y.2, yr124, wr_id (x := B i + (k : Int) + 1) (by omega) (by omega)]
      by_cases hc : 97 ≤ b ((B i).toNat + k) ∧ b ((B i).toNat + k) ≤ 122
      · rw [if_pos hc]
        refine ⟨fun h6 => absurd h6 (by decide), fun _ => ?_⟩
        rw [show B i + (k : Int) + 1 = B i + (((k + 1 : Nat)) : Int) by omega]
        refine ih (k + 1) (by omega) (fun j hj => ?_)
        by_cases e : j = k
        · subst e; exact kof_l.mpr hc
        · exact hrun j (by omega)
      · rw [if_neg hc]
        exact ⟨fun _ => fin k (by omega) hrun (fun h6 => hc (kof_l.mp h6.2)), fun h6 => absurd rfl h6⟩
  have := scan ((m : Int) - B i).toNat 0 (by omega) (fun j hj => by omega)
  rw [show B i + ((0 : Nat) : Int) = B i by omega] at this
  exact this
theorem nvl_b {s : Nat} : ∀ (n : Nat), n ≤ 4 → (∀ j, j < n → kof (b (s + j)) = 2) → 0 ≤ nvl b s n ∧ nvl b s n ≤ 9999 ∧ (n ≤ 3 → nvl b s n ≤ 999) ∧ (n ≤ 2 → nvl b s n ≤ 99) ∧ (n ≤ 1 → nvl b s n ≤ 9) ∧ (n = 0 → nvl b s n = 0)
  | 0, _, _ => ⟨Int.le_refl _, by show (0 : Int) ≤ 9999; omega, fun _ => by show (0 : Int) ≤ 999; omega, fun _ => by show (0 : Int) ≤ 99; omega, fun _ => by show (0 : Int) ≤ 9; omega, fun _ => rfl⟩
  | n + 1, h, hd => by
    have ih := nvl_b n (by omega) (fun j hj => hd j (by omega))
    have := kof_d.mp (hd n (by omega))
    unfold nvl
    omega
theorem m_fig {i : Nat} {a dp lo hi : Int} (hT : IsTok b m N K B E) (hM : MT V b m) (hi' : i ≤ N) (ha : psE E i ≤ a ∧ a ≤ B i)
    (h1 : ∀ v, tN b K B E i lo hi v → Q (.inl (some (vi v))) (mst V (E i) (-1) dp) D) (h0 : (∀ v, ¬ tN b K B E i lo hi v) → ∀ v a', 0 ≤ a' → a' ≤ 500 → Q (.inl (some (vi v))) (mst V a' (B i) dp) D) : RY d 303 0 [vr 405, vi lo, vi hi, vr 0, vr 0] [] (mst V a (-1) dp) D Q := by
  have hb := hT.bnd hi'
  have hm4 := hM.2.1
  refine u_303_0 ?_
  rw [mst_12]
  refine ⟨fun _ => m_here hT hM hi' ha (u_303_14 ?_), fun h5 => absurd rfl h5⟩
  have bad : (∀ v, ¬ tN b K B E i lo hi v) → ∀ a' v, 0 ≤ a' → a' ≤ 500 → RY d 303 119 [vr 405, vi lo, vi hi, vi (B i), vi v] [] (mst V a' (-1) dp) D Q := by
    intro hno a' v ha1 ha2
    refine u_303_119 ?_
    rw [mst_12]
    refine ⟨fun h5 => absurd rfl h5, fun _ => ?_⟩
    rintro V1 rfl
    rw [mst_w12]
    exact u_303_124 (h0 hno v a' ha1 ha2)
  have fin : ∀ (k : Nat), k ≤ 4 → B i + (k : Int) ≤ (m : Int) → (∀ j, j < k → kof (b ((B i).toNat + j)) = 2) → (¬ (B i + (k : Int) < (m : Int) ∧ kof (b ((B i).toNat + k)) = 2) ∨ k = 4) → RY d 303 89 [vr 405, vi lo, vi hi, vi (B i), vi (nvl b (B i).toNat k)] [] (mst V (B i + (k : Int)) (-1) dp) D Q := by
    intro k hk4 hk hrun hend
    obtain ⟨r1, r2, r3, r4⟩ := run_len hT hi' 2 (Or.inr rfl) k hk hrun
    refine u_303_89 ?_
    rw [mst_11, wr_id (x := B i + (k : Int) - B i) (by omega) (by omega)]
    refine ⟨fun h5 => bad (fun v ht => ?_) _ _ (by omega) (by omega), fun h5 => ⟨fun h6 => bad (fun v ht => ?_) _ _ (by omega) (by omega), fun h6 => ?_⟩⟩
    · rcases hend with hend | hend
      · have := r4 hend ht.1
        have hlt := hT.lt hi' (by rw [ht.1]; decide)
        have := hb.2.2.2 hlt
        omega
      · omega
    · have := r1 ht.1
      have := ht.2.1
      omega
    · have hk2 : K i = 2 := by
        apply Classical.byContradiction
        intro hc
        have := r2 hc
        omega
      have e : (k : Int) = E i - B i := by
        rcases hend with hend | hend
        · exact r4 hend hk2
        · omega
      have en : (E i - B i).toNat = k := by omega
      refine ⟨fun h7 => bad (fun v ht => ?_) _ _ (by omega) (by omega), fun h7 => ⟨fun h8 => u_303_124 ?_, fun h8 => bad (fun v ht => ?_) _ _ (by omega) (by omega)⟩⟩
      · have := ht.2.2.1
        rw [en] at this
        have := ht.2.2.2.1
        omega
      · rw [show B i + (k : Int) = E i by omega]
        exact h1 _ ⟨hk2, by omega, by rw [en], h7, h8⟩
      · have := ht.2.2.1
        rw [en] at this
        have := ht.2.2.2.2
        omega
  have scan : ∀ (n k : Nat), k + n = 4 → B i + (k : Int) ≤ (m : Int) → (∀ j, j < k → kof (b ((B i).toNat + j)) = 2) → RY d 303 18 [vr 405, vi lo, vi hi, vi (B i), vi (nvl b (B i).toNat k)] [] (mst V (B i + (k : Int)) (-1) dp) D Q := by
    intro n
    induction n with
    | zero =>
      intro k hk hkm hrun
      have hf := fin k (by omega) hkm hrun (Or.inr (by omega))
      refine u_303_18 ?_
      rw [mst_11, mst_k (by decide) (by decide) (by decide), hM.1, wr_id (x := B i + (k : Int) - B i) (by omega) (by omega)]
      refine ⟨fun _ => hf, fun h5 => ?_⟩
      have y := mt301 (a := B i + (k : Int)) (f := -1) (dp := dp) (D := D) (k := (B i).toNat + k) hM (by omega)
      rw [show (((B i).toNat + k : Nat) : Int) = B i + (k : Int) by omega] at y
      exact ⟨y.1, fun _ => hf, fun _ => ⟨fun _ => hf, fun h6 => by omega⟩⟩
    | succ n ih =>
      intro k hk hkm hrun
      refine u_303_18 ?_
      rw [mst_11, mst_k (by decide) (by decide) (by decide), hM.1, wr_id (x := B i + (k : Int) - B i) (by omega) (by omega)]
      refine ⟨fun h5 => fin k (by omega) hkm hrun (Or.inl (fun hc => by omega)), fun h5 => ?_⟩
      have y := mt301 (a := B i + (k : Int)) (f := -1) (dp := dp) (D := D) (k := (B i).toNat + k) hM (by omega)
      rw [show (((B i).toNat + k : Nat) : Int) = B i + (k : Int) by omega] at y
      refine ⟨y.1, ?_⟩
      rw [y.2, yr124]
      by_cases hc : 48 ≤ b ((B i).toNat + k) ∧ b ((B i).toNat + k) ≤ 57
      · rw [if_pos hc]
        have hv := nvl_b k (by omega) hrun
        refine ⟨fun h6 => absurd h6 (by decide), fun _ => ⟨fun h6 => by omega, fun _ => ⟨y.1, ?_⟩⟩⟩
        rintro V1 rfl
        rw [mst_w11, wr_id (x := B i + (k : Int) + 1) (by omega) (by omega), wr_id (x := 10 * nvl b (B i).toNat k) (by omega) (by omega), wr_id (x := 10 * nvl b (B i).toNat k + b ((B i).toNat + k)) (by omega) (by omega), wr_id (x := 10 * nvl b (B i).toNat k + b ((B i).toNat + k) - 48) (by omega) (by omega)]
        have := ih (k + 1) (by omega) (by omega) (fun j hj => by
          by_cases e : j = k
          · subst e; exact kof_d.mpr hc
          · exact hrun j (by omega))
        rw [show B i + (((k + 1 : Nat)) : Int) = B i + (k : Int) + 1 by omega] at this
        exact this
      · rw [if_neg hc]
        exact ⟨fun _ => fin k (by omega) hkm hrun (Or.inl (fun h6 => hc (kof_d.mp h6.2))), fun h6 => absurd rfl h6⟩
  have := scan 4 0 (by omega) (by omega) (fun j hj => by omega)
  rw [show B i + ((0 : Nat) : Int) = B i by omega] at this
  exact this
/-! ===== the class's ===== -/
def CT (V : xF) (b : Nat → Int) (m N i : Nat) : Prop := V 76 5 = (i : Int) ∧ i ≤ N ∧ m ≤ 400 ∧ IsTok b m N (V 78) (V 79) (V 80) ∧ ∀ k, k < 400 → V 77 k = b k
theorem CT.up {i i' : Nat} {V : xF} (h : CT V b m N i) (hi : i' ≤ N) : CT (up2 V 76 5 (i' : Int)) b m N i' := by
  obtain ⟨a1, a2, a3, a4, a5⟩ := h
  refine ⟨up2_at _ _ _ _, hi, a3, ?_, fun k hk => ?_⟩
  · rw [up2_na (by decide), up2_na (by decide), up2_na (by decide)]; exact a4
  · rw [up2_na (by decide)]; exact a5 k hk
theorem CT.keep {i : Nat} {V V' : xF} (h : CT V b m N i) (h5 : V' 76 5 = V 76 5) (h7 : V' 77 = V 77) (h8 : V' 78 = V 78) (h9 : V' 79 = V 79) (h10 : V' 80 = V 80) : CT V' b m N i := by
  unfold CT
  rw [h5, h7, h8, h9, h10]
  exact h
theorem c_isWord {i w : Nat} (hC : CT V b m N i) (hw1 : 3 ≤ w) (hw2 : w < 70) (hV : ∀ j, V w j = (wdS w).getD j 0)
    (h1 : tW b (V 78) (V 79) (V 80) i (wdS w) → Q (.inl (some (vi 1))) V D) (h0 : ¬ tW b (V 78) (V 79) (V 80) i (wdS w) → Q (.inl (some (vi 0))) V D) : RY d 349 0 [vr 76, vr w, vr 0] [] V D Q := by
  obtain ⟨a1, a2, a3, hT, a5⟩ := hC
  have hb := hT.bnd a2
  have hN := hT.1
  have hK := wdS_K hw1 hw2 D.2.2.1
  have hl := wdS_len hw2
  refine u_349_0 ?_
  rw [a1, nn_toNat, hK, wr_id (x := V 80 i - V 79 i) (by omega) (by omega)]
  refine ⟨by omega, fun h5 => h0 (fun ht => h5 ht.1), fun h5 => ⟨by omega, by omega, by omega, rfl, rfl, fun h6 => ?_, fun h6 => h0 (fun ht => h6 ht.2.1)⟩⟩
  have main : ∀ (n k : Nat), k + n = (wdS w).length → (∀ j, j < k → b ((V 79 i).toNat + j) = (wdS w).getD j 0) → RY d 349 43 [vr 76, vr w, vi (k : Int)] [] V D Q := by
    intro n
    induction n with
    | zero =>
      intro k hk hall
      refine u_349_43 ?_
      rw [hK]
      exact ⟨by omega, rfl, rfl, fun _ => h1 ⟨h5, h6, fun j hj => hall j (by omega)⟩, fun h7 => by omega⟩
    | succ n ih =>
      intro k hk hall
      refine u_349_43 ?_
      rw [hK, a1, nn_toNat, nn_toNat, wr_id (x := V 79 i + (k : Int)) (by omega) (by omega), wr_id (x := (k : Int) + 1) (by omega) (by omega), show (V 79 i + (k : Int)).toNat = (V 79 i).toNat + k by omega, a5 _ (by omega), hV]
      refine ⟨by omega, rfl, rfl, fun h7 => by omega, fun _ => ⟨by omega, by omega, by omega, rfl, rfl, by omega, fun h8 => ih (k + 1) (by omega) (fun j hj => ?_), fun h8 => h0 (fun ht => h8 (ht.2.2 k (by omega)))⟩⟩
      by_cases e : j = k
      · subst e; exact h8
      · exact hall j (by omega)
  exact main (wdS w).length 0 (by omega) (fun j hj => by omega)
theorem c_passWord {i w : Nat} (hC : CT V b m N i) (hw1 : 3 ≤ w) (hw2 : w < 70) (hV : ∀ j, V w j = (wdS w).getD j 0)
    (h1 : i < N → tW b (V 78) (V 79) (V 80) i (wdS w) → Q (.inl (some (vi 1))) (up2 V 76 5 (((i + 1 : Nat)) : Int)) D) (h0 : ¬ tW b (V 78) (V 79) (V 80) i (wdS w) → Q (.inl (some (vi 0))) V D) : RY d 352 0 [vr 76, vr w] [] V D Q := by
  have hC' := hC
  obtain ⟨a1, a2, a3, hT, a5⟩ := hC'
  have hN := hT.1
  refine u_352_0 ⟨by omega, c_isWord hC hw1 hw2 hV (fun ht => u_352_5 ⟨fun _ => ?_, fun h5 => absurd h5 (by decide)⟩) (fun ht => u_352_5 ⟨fun h5 => absurd rfl h5, fun _ => h0 ht⟩)⟩
  rw [a1, nn_toNat]
  refine ⟨by omega, fun h5 => by rw [ht.1] at h5; omega, fun h5 => ?_⟩
  rintro V1 rfl
  rw [wr_id (by omega) (by omega), show (i : Int) + 1 = (((i + 1 : Nat)) : Int) by omega]
  exact h1 (hT.lt a2 h5) ht
theorem c_passSign {i : Nat} {c : Int} (hC : CT V b m N i) (h1 : i < N → tSg b (V 78) (V 79) i c → Q (.inl (some (vi 1))) (up2 V 76 5 (((i + 1 : Nat)) : Int)) D) (h0 : ¬ tSg b (V 78) (V 79) i c → Q (.inl (some (vi 0))) V D) : RY d 300 0 [vr 76, vi c] [] V D Q := by
  obtain ⟨a1, a2, a3, hT, a5⟩ := hC
  have hN := hT.1
  have hb := hT.bnd a2
  have ey : yr_357 c V D = if V 78 i = 0 then (if b (V 79 i).toNat = c then 1 else 0) else 0 := by
    unfold yr_357
    rw [a1, nn_toNat]
    by_cases h0 : V 78 i = 0
    · have hlt := hT.lt a2 (by rw [h0]; decide)
      have := hb.2.2.2 hlt
      rw [if_pos h0, if_pos h0, a5 _ (by omega)]
    · rw [if_neg h0, if_neg h0]
  have eg : yg_357 c V D := by
    unfold yg_357
    rw [a1, nn_toNat]
    refine ⟨by omega, fun h0 => ?_⟩
    have hlt := hT.lt a2 (by rw [h0]; decide)
    have := hb.2.2.2 hlt
    omega
  refine u_300_0 ⟨eg, ?_⟩
  rw [ey, a1, nn_toNat]
  by_cases hc : tSg b (V 78) (V 79) i c
  · rw [if_pos hc.1, if_pos hc.2]
    refine ⟨fun _ => ⟨by omega, fun h5 => by rw [hc.1] at h5; omega, fun h5 => ?_⟩, fun h5 => absurd h5 (by decide)⟩
    rintro V1 rfl
    rw [wr_id (by omega) (by omega), show (i : Int) + 1 = (((i + 1 : Nat)) : Int) by omega]
    exact h1 (hT.lt a2 h5) hc
  · have e0 : (if V 78 i = 0 then (if b (V 79 i).toNat = c then (1 : Int) else 0) else 0) = 0 := by
      by_cases h5 : V 78 i = 0
      · rw [if_pos h5, if_neg (fun h6 => hc ⟨h5, h6⟩)]
      · rw [if_neg h5]
    rw [e0]
    exact ⟨fun h5 => absurd rfl h5, fun _ => h0 hc⟩
/-- the number of a thing, or none -/
noncomputable def nmF (b : Nat → Int) (K B E : Nat → Int) (i : Nat) : Int := if K i = 2 ∧ E i - B i ≤ 3 then nvl b (B i).toNat (E i - B i).toNat else -1
theorem c_number {i : Nat} (hC : CT V b m N i) (h : Q (.inl (some (vi (nmF b (V 78) (V 79) (V 80) i)))) V D) : RY d 370 0 [vr 76, vr 0, vr 0] [] V D Q := by
  obtain ⟨a1, a2, a3, hT, a5⟩ := hC
  have hN := hT.1
  have hb := hT.bnd a2
  unfold nmF at h
  refine u_370_0 ?_
  rw [a1, nn_toNat, wr_id (x := V 80 i - V 79 i) (by omega) (by omega)]
  refine ⟨by omega, fun h5 => by rw [if_neg (fun hc => h5 hc.1)] at h; exact h, fun h5 => ⟨by omega, by omega, fun h6 => ⟨by omega, ?_⟩, fun h6 => by rw [if_neg (fun hc => by omega)] at h; exact h⟩⟩
  rw [if_pos ⟨h5, h6⟩] at h
  have hlt := hT.lt a2 (by rw [h5]; decide)
  have hk := (hT.kind hlt).2.2
  have main : ∀ (n k : Nat), (k : Int) + n = V 80 i - V 79 i → RY d 370 50 [vr 76, vi (nvl b (V 79 i).toNat k), vi (V 79 i + (k : Int))] [] V D Q := by
    intro n
    induction n with
    | zero =>
      intro k hk'
      refine u_370_50 ?_
      rw [a1, nn_toNat]
      rw [show (V 80 i - V 79 i).toNat = k by omega] at h
      exact ⟨by omega, fun _ => h, fun h7 => by omega⟩
    | succ n ih =>
      intro k hk'
      have hv := nvl_b (b := b) (s := (V 79 i).toNat) k (by omega) (fun j hj => by rw [hk j (by omega), h5])
      have hd := kof_d.mp (show kof (b ((V 79 i).toNat + k)) = 2 by rw [hk k (by omega), h5])
      refine u_370_50 ?_
      rw [a1, nn_toNat]
      refine ⟨by omega, fun h7 => by omega, fun _ => ⟨by omega, ?_⟩⟩
      rw [show (V 79 i + (k : Int)).toNat = (V 79 i).toNat + k by omega, a5 _ (by omega), wr_id (x := V 79 i + (k : Int) + 1) (by omega) (by omega), wr_id (x := 10 * nvl b (V 79 i).toNat k) (by omega) (by omega), wr_id (x := 10 * nvl b (V 79 i).toNat k + b ((V 79 i).toNat + k)) (by omega) (by omega), wr_id (x := 10 * nvl b (V 79 i).toNat k + b ((V 79 i).toNat + k) - 48) (by omega) (by omega), show V 79 i + (k : Int) + 1 = V 79 i + (((k + 1 : Nat)) : Int) by omega]
      exact ih (k + 1) (by omega)
  have := main (V 80 i - V 79 i).toNat 0 (by omega)
  rw [show V 79 i + ((0 : Nat) : Int) = V 79 i by omega] at this
  exact this
theorem nmF_b (hT : IsTok b m N K B E) {i : Nat} (hi : i ≤ N) : nmF b K B E i = -1 ∨ (0 ≤ nmF b K B E i ∧ nmF b K B E i ≤ 999 ∧ K i = 2 ∧ E i - B i ≤ 3 ∧ nmF b K B E i = nvl b (B i).toNat (E i - B i).toNat) := by
  unfold nmF
  by_cases hc : K i = 2 ∧ E i - B i ≤ 3
  · rw [if_pos hc]
    have hlt := hT.lt hi (by rw [hc.1]; decide)
    have hk := (hT.kind hlt).2.2
    have hb := hT.bnd hi
    have hv := nvl_b (b := b) (s := (B i).toNat) (E i - B i).toNat (by omega) (fun j hj => by rw [hk j (by omega), hc.1])
    exact Or.inr ⟨hv.1, hv.2.2.1 (by omega), hc.1, hc.2, rfl⟩
  · rw [if_neg hc]; exact Or.inl rfl
theorem c_passNumber {i : Nat} {lo hi : Int} (hlo : 0 ≤ lo) (hC : CT V b m N i) (h1 : ∀ v, i < N → tN b (V 78) (V 79) (V 80) i lo hi v → Q (.inl (some (vi 1))) (up2 (up2 V 76 6 v) 76 5 (((i + 1 : Nat)) : Int)) D) (h0 : (∀ v, ¬ tN b (V 78) (V 79) (V 80) i lo hi v) → Q (.inl (some (vi 0))) V D) : RY d 362 0 [vr 76, vi lo, vi hi, vr 0] [] V D Q := by
  have hC' := hC
  obtain ⟨a1, a2, a3, hT, a5⟩ := hC'
  have hN := hT.1
  have hnm := nmF_b hT a2
  refine u_362_0 (c_number hC (u_362_4 ?_))
  refine ⟨fun h5 => h0 (fun v ht => ?_), fun h5 => ?_⟩
  · unfold nmF at h5
    rw [if_pos ⟨ht.1, ht.2.1⟩, ← ht.2.2.1] at h5
    have := ht.2.2.2.1
    omega
  · rcases hnm with e | ⟨b1, b2, b3, b4, b5⟩
    · exact absurd e h5
    · refine ⟨fun h6 => h0 (fun v ht => ?_), fun h6 => ⟨fun h7 => ?_, fun h7 => h0 (fun v ht => ?_)⟩⟩
      · have := ht.2.2.1; have := ht.2.2.2.1; omega
      · rintro V1 rfl
        have e5 : (up2 V 76 6 (nmF b (V 78) (V 79) (V 80) i)) 76 5 = (i : Int) := by rw [up2_ni (by decide)]; exact a1
        rw [e5, nn_toNat, up2_na (by decide)]
        refine ⟨by omega, fun h8 => by omega, fun h8 => ?_⟩
        rintro V2 rfl
        rw [wr_id (by omega) (by omega), show (i : Int) + 1 = (((i + 1 : Nat)) : Int) by omega]
        exact h1 _ (hT.lt a2 h8) ⟨b3, b4, b5, h6, h7⟩
      · have := ht.2.2.1; have := ht.2.2.2.2; omega
end TEXT
