/-! ===== WHAT A CALL LEAVES AS IT WAS ===== -/
/-- addresses whose ints stay over a call that only asks -/
def coreA (a : Nat) : Bool := Nat.blt a 76 || Nat.beq a 77 || (Nat.ble 81 a && Nat.ble a 91) || (Nat.ble 103 a && Nat.ble a 246) || Nat.beq a 406 || Nat.beq a 407 || Nat.beq a 409 || Nat.beq a 410 || Nat.ble 421 a
/-- yes or no: still, open -/
def Bv (V : xF) : Prop := (V 405 15 = 0 ∨ V 405 15 = 1) ∧ (V 405 16 = 0 ∨ V 405 16 = 1)
def Cor (V V' : xF) : Prop := (∀ a, coreA a = true → V' a = V a) ∧ V' 405 3 = V 405 3 ∧ V' 405 6 = V 405 6 ∧ V' 405 8 = V 405 8 ∧ V' 405 12 = V 405 12 ∧ V' 76 1 = V 76 1 ∧ (Bv V → Bv V')
theorem Cor.rf {V : xF} : Cor V V := ⟨fun _ _ => rfl, rfl, rfl, rfl, rfl, rfl, id⟩
theorem Cor.tr {V V' V2 : xF} (h : Cor V V') (h' : Cor V' V2) : Cor V V2 :=
  ⟨fun a ha => (h'.1 a ha).trans (h.1 a ha), h'.2.1.trans h.2.1, h'.2.2.1.trans h.2.2.1, h'.2.2.2.1.trans h.2.2.2.1, h'.2.2.2.2.1.trans h.2.2.2.2.1, h'.2.2.2.2.2.1.trans h.2.2.2.2.2.1, fun hb => h'.2.2.2.2.2.2 (h.2.2.2.2.2.2 hb)⟩
theorem Fr.cor {S : List Nat} {V V' : xF} (h : Fr S V V') (hs : S.all (fun a => !coreA a && (!Nat.beq a 405 && !Nat.beq a 76)) = true) : Cor V V' := by
  have hk : ∀ a, a ∈ S → coreA a = false ∧ a ≠ 405 ∧ a ≠ 76 := by
    intro a ha
    have := List.all_eq_true.mp hs a ha
    simp only [Bool.and_eq_true, Bool.not_eq_true'] at this
    refine ⟨this.1, ?_, ?_⟩ <;> (rintro rfl; revert this; decide)
  have h405 : V' 405 = V 405 := h 405 (fun hm => (hk _ hm).2.1 rfl)
  have h76 : V' 76 = V 76 := h 76 (fun hm => (hk _ hm).2.2 rfl)
  refine ⟨fun a ha => h a (fun hm => by rw [(hk _ hm).1] at ha; cases ha), ?_, ?_, ?_, ?_, ?_, ?_⟩
  · rw [h405]
  · rw [h405]
  · rw [h405]
  · rw [h405]
  · rw [h76]
  · intro hb
    unfold Bv
    rw [h405]
    exact hb
/-- the field thrown, and others of the model that are none of the core -/
theorem Cor.up405 {V : xF} {k : Nat} {z : Int} (h3 : k ≠ 3) (h6 : k ≠ 6) (h8 : k ≠ 8) (h12 : k ≠ 12) (h15 : k ≠ 15 := by decide) (h16 : k ≠ 16 := by decide) : Cor V (up2 V 405 k z) := by
  refine ⟨fun a ha => up2_na ?_, ?_, ?_, ?_, ?_, ?_, ?_⟩
  · rintro rfl
    revert ha
    decide
  · rw [up2_ni (fun e => h3 e.symm)]
  · rw [up2_ni (fun e => h6 e.symm)]
  · rw [up2_ni (fun e => h8 e.symm)]
  · rw [up2_ni (fun e => h12 e.symm)]
  · rw [up2_na (by decide)]
  · intro hb
    unfold Bv
    rw [up2_ni (fun e => h15 e.symm), up2_ni (fun e => h16 e.symm)]
    exact hb
theorem Cor.at_ {V V' : xF} (h : Cor V V') (a : Nat) (ha : coreA a = true) : V' a = V a := h.1 a ha
theorem Cor.st {V V' : xF} (h : Cor V V') {p : Rw} (hS : St V 81 p) : St V' 81 p := by
  unfold St
  rw [h.at_ 81 rfl, h.at_ (81 + 1) rfl, h.at_ (81 + 2) rfl, h.at_ (81 + 3) rfl, h.at_ (81 + 4) rfl, h.at_ (81 + 5) rfl, h.at_ (81 + 6) rfl, h.at_ (81 + 7) rfl, h.at_ (81 + 8) rfl, h.at_ (81 + 9) rfl, h.at_ (81 + 10) rfl]
  exact hS
/-- an exception has been made -/
def excD (D : yD) : yD := (D.1, D.2.1, D.2.2.1, D.2.2.2.1, D.2.2.2.2.1 + 1, D.2.2.2.2.2 + 6)
def CorD (D D' : yD) : Prop := (∀ a, a ≠ 92 → D'.2.1 a = D.2.1 a) ∧ D'.2.2.1 = D.2.2.1 ∧ D'.2.2.2.1 = D.2.2.2.1 ∧ D'.2.2.2.2.1 ≤ D.2.2.2.2.1 + 1 ∧ D'.2.2.2.2.2 ≤ D.2.2.2.2.2 + 6
theorem CorD.rf {D : yD} : CorD D D := ⟨fun _ _ => rfl, rfl, rfl, by omega, by omega⟩
theorem CorD.exc {D : yD} : CorD D (excD D) := ⟨fun _ _ => rfl, rfl, rfl, Nat.le_refl _, Nat.le_refl _⟩
/-- an answer, or an exception: 0 IllegalArgument, 1 IllegalState, 2 IndexOutOfBounds, 3 UnsupportedOperation, 4 NoSuchElement -/
abbrev aRes : Type := Int ⊕ Nat
def cRes : aRes → xRes
  | .inl b => .inl (some (vi b))
  | .inr E => .inr E
/-- what the model's answer is where it throws -/
def mVal : aRes → Int
  | .inl b => b
  | .inr _ => 0
section PL
variable {d : Nat} {V : xF} {D : yD} {Q : xRes → xF → yD → Prop} {p : Rw}
/-- a place that there is, of numbers as they are given -/
def plA (p : Rw) (r x y : Int) : Prop := (0 ≤ r ∧ r < p 3) ∧ (1 ≤ x ∧ x < rW p r.toNat) ∧ (1 ≤ y ∧ y < rD p r.toNat)
theorem plA.ok (hW : WF p) {r x y : Int} (h : plA p r x y) : okPl p r.toNat x y := ⟨hW, by have := h.1; omega, h.2⟩
theorem c_needRoom {r : Int} (hS : St V 81 p) (h1 : (0 ≤ r ∧ r < p 3) → Q (.inl none) V D) (h2 : ¬ (0 ≤ r ∧ r < p 3) → Q (.inr 2) V (excD D)) : RY d 235 0 [vr 70, vi r] [] V D Q := by
  have e := hS.1
  refine u_235_0 ⟨fun a => h2 (by omega), fun a => ⟨fun b => h1 (by omega), fun b => h2 (by omega)⟩⟩
theorem c_needPlace {r x y : Int} (hS : St V 81 p) (hW : WF p) (h1 : plA p r x y → Q (.inl none) V D) (h2 : ¬ plA p r x y → Q (.inr 2) V (excD D)) : RY d 264 0 [vr 70, vi r, vi x, vi y] [] V D Q := by
  refine u_264_0 (c_needRoom hS (fun hr => ?_) (fun hr => ⟨rfl, h2 (fun h => hr h.1)⟩))
  obtain ⟨r, rfl⟩ : ∃ n : Nat, r = (n : Int) := ⟨r.toNat, by omega⟩
  have hR := hW.room hr.2
  have e1 : V 82 r = rW p r := hS.2.1 r hR.1
  have e2 : V 83 r = rD p r := hS.2.2.1 r hR.1
  have hr5 := hR.1
  refine u_264_5 ⟨?_, ?_⟩
  · unfold yg_328_81
    omega
  · unfold yr_328_81
    rw [nn_toNat, e1, e2]
    unfold plA at h1 h2
    rw [nn_toNat] at h1 h2
    refine ⟨fun h => h1 ⟨hr, ?_⟩, fun h => h2 ?_⟩
    · revert h
      (repeat' split) <;> intro h <;> omega
    · revert h
      (repeat' split) <;> intro h <;> omega
theorem yr265 {x y : Int} (hx : 0 ≤ x ∧ x ≤ 1000) (hy : 0 ≤ y ∧ y ≤ 1000) : yr_265 x y V D = 16 * x + y := by
  unfold yr_265
  rw [wr_id (x := 16 * x) (by omega) (by omega), wr_id (by omega) (by omega)]
theorem c_hearPlace {r x y : Int} (hS : St V 81 p) (hB : V 2 = xback5) (hW : WF p) (h1 : plA p r x y → ∀ V', hearC p r.toNat x y 253 V V' → Q (.inl none) V' D) (h2 : ¬ plA p r x y → Q (.inr 2) V (excD D)) : RY d 252 0 [vr 70, vi r, vi x, vi y] [] V D Q := by
  refine u_252_0 (c_needPlace hS hW (fun hp => ?_) (fun hp => ⟨rfl, h2 hp⟩))
  obtain ⟨⟨hr1, hr2⟩, hx, hy⟩ := hp
  obtain ⟨r, rfl⟩ : ∃ n : Nat, r = (n : Int) := ⟨r.toNat, by omega⟩
  rw [nn_toNat] at hx hy
  obtain ⟨-, hw, hd⟩ := hW.room hr2
  refine u_252_7 ?_
  rw [yr265 (by omega) (by omega)]
  refine c_listen_81 hS hB hW hr2 ⟨hx, hy⟩ (Or.inl rfl) ?_
  intro V' hV'
  refine u_252_28 (h1 ⟨⟨by omega, hr2⟩, by rw [nn_toNat]; exact hx, by rw [nn_toNat]; exact hy⟩ V' ?_)
  rw [nn_toNat]
  exact hV'
theorem hearC.cor {r : Nat} {x y : Int} {V V' : xF} (h : hearC p r x y 253 V V') : Cor V V' := h.2.cor (by decide)
/-- first, last, loudest: what is asked of a reply -/
noncomputable def aAsk (p : Rw) (r x y : Int) (F : (Nat → Int) → Int) : aRes := @ite _ (plA p r x y) (Classical.propDecidable _) (.inl (F (hearT p r.toNat x y))) (.inr 2)
theorem aAsk_y {r x y : Int} {F : (Nat → Int) → Int} (h : plA p r x y) : aAsk p r x y F = .inl (F (hearT p r.toNat x y)) := by unfold aAsk; rw [if_pos h]
theorem aAsk_n {r x y : Int} {F : (Nat → Int) → Int} (h : ¬ plA p r x y) : aAsk p r x y F = .inr 2 := by unfold aAsk; rw [if_neg h]
theorem ca_first {r x y : Int} (hS : St V 81 p) (hB : V 2 = xback5) (hW : WF p) (h : ∀ V' D', Cor V V' → CorD D D' → Q (cRes (aAsk p r x y (fun f => kth f 0 64 0))) V' D') : RY d 175 0 [vr 70, vi r, vi x, vi y] [] V D Q := by
  refine u_175_0 (c_hearPlace hS hB hW (fun hp V' hV' => ?_) (fun hp => ⟨rfl, ?_⟩))
  · rw [aAsk_y hp] at h
    refine u_175_7 (c_timeOf hV'.1 (by omega) (u_175_15 ?_))
    have := h V' D hV'.cor CorD.rf
    rw [kth_hi 16 48 0 0 (fun u hu => by rw [hear_hi (hp.ok hW) (by omega)]; exact Int.le_refl _)] at this
    exact this
  · rw [aAsk_n hp] at h
    exact h V _ Cor.rf CorD.exc
theorem cntT_mono {f : Nat → Int} {a : Nat} : ∀ (k : Nat), cntT f a ≤ cntT f (a + k)
  | 0 => Int.le_refl _
  | k + 1 => by
    have := cntT_mono (f := f) (a := a) k
    show _ ≤ cntT f (a + k) + (if 0 < f (a + k) then 1 else 0)
    split <;> omega
theorem kth_spec {f : Nat → Int} : ∀ (n t : Nat) (k : Int), (kth f k n t = -1 ∧ ∀ u, t ≤ u → u < t + n → 0 < f u → cntT f u - cntT f t ≠ k) ∨ (∃ u : Nat, kth f k n t = (u : Int) ∧ t ≤ u ∧ u < t + n ∧ 0 < f u ∧ cntT f u - cntT f t = k)
  | 0, t, k => Or.inl ⟨rfl, fun u h1 h2 => by omega⟩
  | n + 1, t, k => by
    have e1 : cntT f (t + 1) = cntT f t + (if 0 < f t then 1 else 0) := rfl
    unfold kth
    by_cases h : 0 < f t
    · rw [if_pos h] at e1
      rw [if_pos h]
      by_cases hk : k = 0
      · rw [if_pos hk]
        exact Or.inr ⟨t, rfl, Nat.le_refl _, by omega, h, by omega⟩
      · rw [if_neg hk]
        rcases kth_spec (f := f) n (t + 1) (k - 1) with ⟨a, b⟩ | ⟨u, a, b, c, e, g⟩
        · refine Or.inl ⟨a, fun u h1 h2 h3 => ?_⟩
          by_cases e : u = t
          · subst e; omega
          · have := b u (by omega) (by omega) h3; omega
        · exact Or.inr ⟨u, a, by omega, by omega, e, by omega⟩
    · rw [if_neg h] at e1
      rw [if_neg h]
      rcases kth_spec (f := f) n (t + 1) k with ⟨a, b⟩ | ⟨u, a, b, c, e, g⟩
      · refine Or.inl ⟨a, fun u h1 h2 h3 => ?_⟩
        by_cases e : u = t
        · subst e; omega
        · have := b u (by omega) (by omega) h3; omega
      · exact Or.inr ⟨u, a, by omega, by omega, e, by omega⟩
theorem lastT_spec {f : Nat → Int} : ∀ (n : Nat), (lastT f n = -1 ∧ ∀ u, u < n → f u ≤ 0) ∨ (∃ u : Nat, lastT f n = (u : Int) ∧ u < n ∧ 0 < f u ∧ ∀ v, u < v → v < n → f v ≤ 0)
  | 0 => Or.inl ⟨rfl, fun u h => by omega⟩
  | n + 1 => by
    unfold lastT
    by_cases h : 0 < f n
    · rw [if_pos h]
      exact Or.inr ⟨n, rfl, by omega, h, fun v a b => by omega⟩
    · rw [if_neg h]
      rcases lastT_spec (f := f) n with ⟨a, b⟩ | ⟨u, a, b, c, e⟩
      · refine Or.inl ⟨a, fun u h1 => ?_⟩
        by_cases e : u = n
        · subst e; omega
        · exact b u (by omega)
      · refine Or.inr ⟨u, a, by omega, c, fun v h1 h2 => ?_⟩
        by_cases e' : v = n
        · subst e'; omega
        · exact e v h1 (by omega)
theorem kth_last {f : Nat → Int} (n : Nat) : kth f (cntT f n - 1) n 0 = lastT f n := by
  have h0 : cntT f 0 = 0 := rfl
  rcases lastT_spec (f := f) n with ⟨a, b⟩ | ⟨m, a, b, c, e⟩
  · rw [a]
    rcases kth_spec (f := f) n 0 (cntT f n - 1) with ⟨x, -⟩ | ⟨u, x1, x2, x3, x4, x5⟩
    · exact x
    · have := b u (by omega); omega
  · rw [a]
    have hn : cntT f n = cntT f m + 1 := by
      have e1 : cntT f (m + 1) = cntT f m + (if 0 < f m then 1 else 0) := rfl
      rw [if_pos c] at e1
      have : ∀ k, m + 1 + k ≤ n → cntT f (m + 1 + k) = cntT f (m + 1) := by
        intro k
        induction k with
        | zero => intro _; rfl
        | succ k ih =>
          intro hk
          show cntT f (m + 1 + k) + (if 0 < f (m + 1 + k) then 1 else 0) = _
          rw [if_neg (by have := e (m + 1 + k) (by omega) (by omega); omega), ih (by omega)]
          omega
      have := this (n - (m + 1)) (by omega)
      rw [show m + 1 + (n - (m + 1)) = n by omega] at this
      omega
    rcases kth_spec (f := f) n 0 (cntT f n - 1) with ⟨x, y⟩ | ⟨u, x1, x2, x3, x4, x5⟩
    · exact absurd (by omega) (y m (by omega) (by omega) c)
    · rw [x1]
      rcases Nat.lt_trichotomy u m with h | h | h
      · have e1 : cntT f (u + 1) = cntT f u + (if 0 < f u then 1 else 0) := rfl
        rw [if_pos x4] at e1
        have := cntT_mono (f := f) (a := u + 1) (m - (u + 1))
        rw [show u + 1 + (m - (u + 1)) = m by omega] at this
        omega
      · omega
      · have := e u h (by omega)
        omega
theorem ca_last {r x y : Int} (hS : St V 81 p) (hB : V 2 = xback5) (hW : WF p) (h : ∀ V' D', Cor V V' → CorD D D' → Q (cRes (aAsk p r x y (fun f => lastT f 64))) V' D') : RY d 176 0 [vr 70, vi r, vi x, vi y] [] V D Q := by
  refine u_176_0 (c_hearPlace hS hB hW (fun hp V' hV' => ?_) (fun hp => ⟨rfl, ?_⟩))
  · rw [aAsk_y hp] at h
    have hc := cntT_b (hearT p r.toNat x y) 48
    refine u_176_7 (c_echoes (Or.inl rfl) hV'.1 (u_176_18 ?_))
    rw [wr_id (by omega) (by omega)]
    refine c_timeOf hV'.1 (by omega) (u_176_23 ?_)
    rw [kth_last]
    have := h V' D hV'.cor CorD.rf
    rw [lastT_hi (n := 48) 16 (fun u hu => by rw [hear_hi (hp.ok hW) (by omega)]; exact Int.le_refl _)] at this
    exact this
  · rw [aAsk_n hp] at h
    exact h V _ Cor.rf CorD.exc
theorem ca_loudest {r x y : Int} (hS : St V 81 p) (hB : V 2 = xback5) (hW : WF p) (h : ∀ V' D', Cor V V' → CorD D D' → Q (cRes (aAsk p r x y (fun f => ldT f 64))) V' D') : RY d 177 0 [vr 70, vi r, vi x, vi y] [] V D Q := by
  refine u_177_0 (c_hearPlace hS hB hW (fun hp V' hV' => ?_) (fun hp => ⟨rfl, ?_⟩))
  · rw [aAsk_y hp] at h
    refine u_177_7 (c_loudest (Or.inl rfl) hV'.1 (u_177_14 ?_))
    have := h V' D hV'.cor CorD.rf
    rw [ldT_hi (n := 48) 16 (fun u hu => by rw [hear_hi (hp.ok hW) (by omega)]; exact Int.le_refl _)] at this
    exact this
  · rw [aAsk_n hp] at h
    exact h V _ Cor.rf CorD.exc
/-- echo: how many, or of the k-th the time, or how loud -/
def ekF (k b : Int) (f : Nat → Int) : Int := if k = -1 then cntT f 64 else if kth f k 64 0 = -1 then -1 else if b = 0 then kth f k 64 0 else f (kth f k 64 0).toNat
theorem ca_echo {r x y k b : Int} (hk : -2147483648 ≤ k ∧ k ≤ 2147483647) (hS : St V 81 p) (hB : V 2 = xback5) (hW : WF p) (h : ∀ V' D', Cor V V' → CorD D D' → Q (cRes (aAsk p r x y (ekF k b))) V' D') : RY d 153 0 [vr 70, vi r, vi x, vi y, vi k, vi b, vr 0] [] V D Q := by
  refine u_153_0 (c_hearPlace hS hB hW (fun hp V' hV' => ?_) (fun hp => ⟨rfl, ?_⟩))
  · rw [aAsk_y hp] at h
    have h1 := h V' D hV'.cor CorD.rf
    have hi : ∀ u, 48 ≤ u → hearT p r.toNat x y u ≤ 0 := fun u hu => by rw [hear_hi (hp.ok hW) (by omega)]; exact Int.le_refl _
    have e1 : cntT (hearT p r.toNat x y) 64 = cntT (hearT p r.toNat x y) 48 := cntT_hi 16 hi
    have e2 : kth (hearT p r.toNat x y) k 64 0 = kth (hearT p r.toNat x y) k 48 0 := kth_hi 16 48 0 k (fun u hu => hi u (by omega))
    unfold ekF at h1
    rw [e1, e2] at h1
    refine u_153_7 ⟨fun hk1 => ?_, fun hk1 => ?_⟩
    · rw [if_neg hk1] at h1
      refine c_timeOf hV'.1 hk (u_153_30 ⟨fun h2 => ?_, fun h2 => ?_⟩)
      · rw [if_pos h2] at h1
        rw [h2]
        exact h1
      · rw [if_neg h2] at h1
        rcases kth_spec (f := hearT p r.toNat x y) 48 0 k with ⟨g, -⟩ | ⟨u, g1, g2, g3, -, -⟩
        · exact absurd g h2
        · rw [g1, nn_toNat] at h1 ⊢
          refine ⟨fun h3 => ?_, fun h3 => ?_⟩
          · rw [if_neg h3] at h1
            refine ⟨by omega, ?_⟩
            rw [hV'.1 u (by omega)]
            exact h1
          · rw [if_pos h3] at h1
            exact h1
    · rw [if_pos hk1] at h1
      exact c_echoes (Or.inl rfl) hV'.1 (u_153_20 h1)
  · rw [aAsk_n hp] at h
    exact h V _ Cor.rf CorD.exc
/-! ===== the model's ===== -/
theorem yr124 {a b c : Int} : yr_124 a b c V D = if b ≤ a ∧ a ≤ c then 1 else 0 := by
  unfold yr_124
  (repeat' split) <;> omega
theorem yr132 {r : Int} (hW : WF (V 406)) : yr_132 r V D = if 0 ≤ r ∧ r < V 406 3 then 1 else 0 := by
  unfold yr_132
  have := hW.1
  rw [yr124, wr_id (by omega) (by omega)]
  (repeat' split) <;> omega
theorem yg132 {r : Int} : yg_132 r V D := by
  unfold yg_132
  rw [yr124]
  split <;> simp
theorem m_arePlaces {r x y : Int} (hW : WF (V 406)) (h1 : plA (V 406) r x y → ∀ V', V' 405 0 = 0 → Cor V V' → Fr [405] V V' → Q (.inl none) V' D) (h2 : ¬ plA (V 406) r x y → ∀ V', V' 405 0 = 1 → Cor V V' → Q (.inl none) V' D) : RY d 154 0 [vr 405, vi r, vi x, vi y] [] V D Q := by
  refine u_154_0 ⟨yg132, ?_⟩
  rw [yr132 hW]
  by_cases hr : 0 ≤ r ∧ r < V 406 3
  · rw [if_pos hr]
    refine ⟨fun h => absurd h (by decide), fun _ => ?_⟩
    obtain ⟨r, rfl⟩ : ∃ n : Nat, r = (n : Int) := ⟨r.toNat, by omega⟩
    obtain ⟨hr5, hw, hd⟩ := hW.room hr.2
    unfold plA at h1 h2
    rw [nn_toNat] at h1 h2
    refine ⟨?_, ?_⟩
    · unfold yg_164
      exact ⟨yg133 hr5 (by omega), fun _ => yg133 hr5 (by omega)⟩
    · unfold yr_164
      rw [yr133_0 hr5, yr133_1 hr5, yr124, yr124, wr_id (x := rW (V 406) r - 1) (by omega) (by omega), wr_id (x := rD (V 406) r - 1) (by omega) (by omega)]
      refine ⟨fun h => ?_, fun h => ?_⟩
      · rintro V1 rfl
        refine h1 ⟨hr, ?_⟩ _ (up2_at _ _ _ _) (Cor.up405 (by decide) (by decide) (by decide) (by decide)) (Fr.up (by decide))
        revert h
        (repeat' split) <;> intro h <;> omega
      · rintro V1 rfl
        refine h2 ?_ _ (up2_at _ _ _ _) (Cor.up405 (by decide) (by decide) (by decide) (by decide))
        revert h
        (repeat' split) <;> intro h <;> omega
  · rw [if_neg hr]
    refine ⟨fun _ => ?_, fun h => absurd rfl h⟩
    rintro V1 rfl
    exact h2 (fun h => hr h.1) _ (up2_at _ _ _ _) (Cor.up405 (by decide) (by decide) (by decide) (by decide))
/-- a place is heard, or there is none -/
theorem m_ask0 {r x y : Int} (hW : WF (V 406)) (hr : plA (V 406) r x y)
    (h : ∀ V', (∀ t, t < 64 → V' 412 t = hearT (V 406) r.toNat x y t) → (∀ t, t < 64 → V' 413 t = wallsOf (V 406) r.toNat x y t) → Fr [412, 413] V V' → Q (.inl (some (vi (cntT (hearT (V 406) r.toNat x y) 64)))) V' D) :
    RY d 155 0 [vr 405, vi r, vi x, vi y, vr 0, vr 0, vr 0, vr 0] [] V D Q := by
  obtain ⟨hr1, hx, hy⟩ := hr
  obtain ⟨r, rfl⟩ : ∃ n : Nat, r = (n : Int) := ⟨r.toNat, by omega⟩
  rw [nn_toNat] at hx hy h
  exact m_hears hW hr1.2 ⟨hx, hy⟩ h
theorem ma_first {r x y : Int} (hW : WF (V 406)) (h : ∀ V', V' 405 0 = (match aAsk (V 406) r x y (fun f => kth f 0 64 0) with | .inl _ => 0 | .inr _ => 1) → Cor V V' → Q (.inl (some (vi (mVal (aAsk (V 406) r x y (fun f => kth f 0 64 0)))))) V' D) : RY d 42 0 [vr 405, vi r, vi x, vi y, vr 0, vr 0] [] V D Q := by
  refine u_42_0 (m_arePlaces hW (fun hp V1 t1 C1 F1 => ?_) (fun hp V1 t1 C1 => ?_))
  · rw [aAsk_y hp] at h
    have e6 : V1 406 = V 406 := C1.at_ 406 rfl
    refine u_42_7 ⟨fun _ => ?_, fun h5 => by omega⟩
    refine m_ask0 (by rw [e6]; exact hW) (by rw [e6]; exact hp) ?_
    rw [e6]
    intro V2 h2 h3 F2
    refine u_42_23 ?_
    have C2 : Cor V V2 := C1.tr (F2.cor (by decide))
    have t2 : V2 405 0 = 0 := by rw [F2.at_ 405 (by decide)]; exact t1
    have hq := h V2 t2 C2
    obtain ⟨R, hR⟩ : ∃ R, R = kth (hearT (V 406) r.toNat x y) 0 64 0 := ⟨_, rfl⟩
    dsimp only [mVal] at hq
    rw [← hR] at hq
    have main : ∀ (n t : Nat), t + n = 64 → kth (hearT (V 406) r.toNat x y) 0 n t = R → RY d 42 28 [vr 405, vi r, vi x, vi y, vi (cntT (hearT (V 406) r.toNat x y) 64), vi (t : Int)] [] V2 D Q := by
      intro n
      induction n with
      | zero =>
        intro t ht he
        refine u_42_28 ⟨fun _ => ?_, fun h5 => by omega⟩
        rw [← he] at hq
        exact hq
      | succ n ih =>
        intro t ht he
        unfold kth at he
        refine u_42_28 ⟨fun h5 => by omega, fun _ => ⟨by omega, ?_⟩⟩
        rw [nn_toNat, h2 t (by omega), wr_id (by omega) (by omega)]
        refine ⟨fun h5 => ?_, fun h5 => ?_⟩
        · rw [if_neg (by omega)] at he
          exact ih (t + 1) (by omega) he
        · rw [if_pos h5, if_pos rfl] at he
          rw [← he] at hq
          exact hq
    exact main 64 0 (by omega) hR.symm
  · rw [aAsk_n hp] at h
    refine u_42_7 ⟨fun h5 => by omega, fun _ => h V1 t1 C1⟩
theorem ma_last {r x y : Int} (hW : WF (V 406)) (h : ∀ V', V' 405 0 = (match aAsk (V 406) r x y (fun f => lastT f 64) with | .inl _ => 0 | .inr _ => 1) → Cor V V' → Q (.inl (some (vi (mVal (aAsk (V 406) r x y (fun f => lastT f 64)))))) V' D) : RY d 44 0 [vr 405, vi r, vi x, vi y, vr 0, vr 0] [] V D Q := by
  refine u_44_0 (m_arePlaces hW (fun hp V1 t1 C1 F1 => ?_) (fun hp V1 t1 C1 => ?_))
  · rw [aAsk_y hp] at h
    have e6 : V1 406 = V 406 := C1.at_ 406 rfl
    refine u_44_7 ⟨fun _ => ?_, fun h5 => by omega⟩
    refine m_ask0 (by rw [e6]; exact hW) (by rw [e6]; exact hp) ?_
    rw [e6]
    intro V2 h2 h3 F2
    refine u_44_23 ?_
    have C2 : Cor V V2 := C1.tr (F2.cor (by decide))
    have t2 : V2 405 0 = 0 := by rw [F2.at_ 405 (by decide)]; exact t1
    have hq := h V2 t2 C2
    obtain ⟨R, hR⟩ : ∃ R, R = lastT (hearT (V 406) r.toNat x y) 64 := ⟨_, rfl⟩
    dsimp only [mVal] at hq
    rw [← hR] at hq
    have main : ∀ (n : Nat), n ≤ 64 → lastT (hearT (V 406) r.toNat x y) n = R → RY d 44 29 [vr 405, vi r, vi x, vi y, vi (cntT (hearT (V 406) r.toNat x y) 64), vi ((n : Int) - 1)] [] V2 D Q := by
      intro n
      induction n with
      | zero =>
        intro ht he
        refine u_44_29 ⟨fun _ => ?_, fun h5 => by omega⟩
        rw [← he] at hq
        exact hq
      | succ n ih =>
        intro ht he
        unfold lastT at he
        rw [show ((n + 1 : Nat) : Int) - 1 = (n : Int) by omega]
        refine u_44_29 ⟨fun h5 => by omega, fun _ => ⟨by omega, ?_⟩⟩
        rw [nn_toNat, h2 n (by omega), wr_id (by omega) (by omega)]
        refine ⟨fun h5 => ?_, fun h5 => ?_⟩
        · rw [if_neg (by omega)] at he
          exact ih (by omega) he
        · rw [if_pos h5] at he
          rw [← he] at hq
          exact hq
    exact main 64 (by omega) hR.symm
  · rw [aAsk_n hp] at h
    refine u_44_7 ⟨fun h5 => by omega, fun _ => h V1 t1 C1⟩
theorem ma_loudest {r x y : Int} (hW : WF (V 406)) (h : ∀ V', V' 405 0 = (match aAsk (V 406) r x y (fun f => ldT f 64) with | .inl _ => 0 | .inr _ => 1) → Cor V V' → Q (.inl (some (vi (mVal (aAsk (V 406) r x y (fun f => ldT f 64)))))) V' D) : RY d 46 0 [vr 405, vi r, vi x, vi y, vr 0] [] V D Q := by
  refine u_46_0 (m_arePlaces hW (fun hp V1 t1 C1 F1 => ?_) (fun hp V1 t1 C1 => ?_))
  · rw [aAsk_y hp] at h
    have e6 : V1 406 = V 406 := C1.at_ 406 rfl
    refine u_46_7 ⟨fun _ => ?_, fun h5 => by omega⟩
    refine m_ask0 (by rw [e6]; exact hW) (by rw [e6]; exact hp) ?_
    rw [e6]
    intro V2 h2 h3 F2
    have C2 : Cor V V2 := C1.tr (F2.cor (by decide))
    have t2 : V2 405 0 = 0 := by rw [F2.at_ 405 (by decide)]; exact t1
    exact u_46_23 (m_loudest h2 (u_46_29 (h V2 t2 C2)))
  · rw [aAsk_n hp] at h
    refine u_46_7 ⟨fun h5 => by omega, fun _ => h V1 t1 C1⟩
theorem ma_echo {r x y k b : Int} (hk : -2147483648 ≤ k ∧ k ≤ 2147483647) (hW : WF (V 406)) (h : ∀ V', V' 405 0 = (match aAsk (V 406) r x y (ekF k b) with | .inl _ => 0 | .inr _ => 1) → Cor V V' → Q (.inl (some (vi (mVal (aAsk (V 406) r x y (ekF k b)))))) V' D) : RY d 24 0 [vr 405, vi r, vi x, vi y, vi k, vi b, vr 0, vr 0, vr 0] [] V D Q := by
  refine u_24_0 (m_arePlaces hW (fun hp V1 t1 C1 F1 => ?_) (fun hp V1 t1 C1 => ?_))
  · rw [aAsk_y hp] at h
    have e6 : V1 406 = V 406 := C1.at_ 406 rfl
    refine u_24_7 ⟨fun _ => ?_, fun h5 => by omega⟩
    refine m_ask0 (by rw [e6]; exact hW) (by rw [e6]; exact hp) ?_
    rw [e6]
    intro V2 h2 h3 F2
    have C2 : Cor V V2 := C1.tr (F2.cor (by decide))
    have t2 : V2 405 0 = 0 := by rw [F2.at_ 405 (by decide)]; exact t1
    have hq := h V2 t2 C2
    dsimp only [mVal] at hq
    unfold ekF at hq
    refine u_24_23 ⟨fun h4 => ?_, fun h4 => ?_⟩
    · rw [if_neg h4] at hq
      obtain ⟨R, hR⟩ : ∃ R, R = kth (hearT (V 406) r.toNat x y) k 64 0 := ⟨_, rfl⟩
      rw [← hR] at hq
      have hpos := hear_b (hp.ok hW)
      have main : ∀ (n t b' : Nat), t + n = 64 → b' ≤ t → kth (hearT (V 406) r.toNat x y) (k - b') n t = R → ∀ z, (z = k - b' ∨ (k < b' ∧ z = wr (k - b'))) → RY d 24 41 [vr 405, vi r, vi x, vi y, vi k, vi b, vi (cntT (hearT (V 406) r.toNat x y) 64), vi z, vi (t : Int)] [] V2 D Q := by
        intro n
        induction n with
        | zero =>
          intro t b' ht hb he z hz
          refine u_24_41 ⟨fun _ => ?_, fun h5 => by omega⟩
          have he' : (-1 : Int) = R := he
          rw [← he', if_pos rfl] at hq
          exact hq
        | succ n ih =>
          intro t b' ht hb he z hz
          unfold kth at he
          refine u_24_41 ⟨fun h5 => by omega, fun _ => ⟨by omega, ?_⟩⟩
          have hpt := hpos t
          rw [nn_toNat, h2 t (by omega), wr_id (x := (t : Int) + 1) (by omega) (by omega)]
          refine ⟨fun h5 => ⟨fun h6 => ?_, fun h6 => ?_⟩, fun h5 => ?_⟩
          · have hk0 : k - (b' : Int) ≠ 0 := by
              intro e
              rcases hz with hz | ⟨hz1, hz2⟩
              · omega
              · omega
            rw [if_pos (by omega), if_neg hk0] at he
            refine ih (t + 1) (b' + 1) (by omega) (by omega) (by rw [← he]; congr 1; omega) _ ?_
            rw [wr_eq]
            rcases hz with hz | ⟨hz1, hz2⟩
            · subst hz
              by_cases hc : k - b' - 1 ≥ -2147483648
              · left; omega
              · right
                refine ⟨by omega, ?_⟩
                rw [wr_eq]
                omega
            · right
              refine ⟨by omega, ?_⟩
              rw [hz2, wr_eq, wr_eq]
              omega
          · have hk0 : k - (b' : Int) = 0 := by
              rcases hz with hz | ⟨hz1, hz2⟩
              · omega
              · rw [hz2, wr_eq] at h6
                omega
            rw [if_pos (by omega), if_pos hk0] at he
            rw [← he, if_neg (by omega), nn_toNat] at hq
            refine ⟨fun h7 => ?_, fun h7 => ⟨by omega, ?_⟩⟩
            · rw [if_pos h7] at hq
              exact hq
            · rw [if_neg h7] at hq
              exact hq
          · rw [if_neg (by omega)] at he
            exact ih (t + 1) b' (by omega) (by omega) he z hz
      exact main 64 0 0 (by omega) (by omega) (by rw [show k - ((0 : Nat) : Int) = k by omega, hR]) k (Or.inl (by omega))
    · rw [if_pos h4] at hq
      exact hq
  · rw [aAsk_n hp] at h
    refine u_24_7 ⟨fun h5 => by omega, fun _ => h V1 t1 C1⟩
end PL
