/-! ===== WAYS BY DOORS ===== -/
theorem eps_eq {P : Int → Prop} (hu : ∀ a b, P a → P b → a = b) {a : Int} (h : P a) : a = Classical.epsilon P := hu _ _ h (Classical.epsilon_spec ⟨a, h⟩)
theorem tb_lor {x y : Int} (hx : 0 ≤ x ∧ x < 32) (hy : 0 ≤ y ∧ y < 32) : (0 ≤ xor_ x y ∧ xor_ x y < 32) ∧ ∀ j, j < 5 → tb (xor_ x y) j = (tb x j || tb y j) := by
  have hall : ∀ x : Fin 32, ∀ y : Fin 32, (0 ≤ xor_ (x.1 : Int) (y.1 : Int) ∧ xor_ (x.1 : Int) (y.1 : Int) < 32) ∧ ∀ j : Fin 5, tb (xor_ (x.1 : Int) (y.1 : Int)) j.1 = (tb (x.1 : Int) j.1 || tb (y.1 : Int) j.1) := by decide +kernel
  have := hall ⟨x.toNat, by omega⟩ ⟨y.toNat, by omega⟩
  dsimp only at this
  rw [show ((x.toNat : Nat) : Int) = x by omega, show ((y.toNat : Nat) : Int) = y by omega] at this
  exact ⟨this.1, fun j hj => this.2 ⟨j, hj⟩⟩
theorem tb_dif {x y : Int} (hx : 0 ≤ x ∧ x < 32) (hy : 0 ≤ y ∧ y < 32) : (0 ≤ xand x (xxor y (-1)) ∧ xand x (xxor y (-1)) < 32) ∧ ∀ j, j < 5 → tb (xand x (xxor y (-1))) j = (tb x j && !tb y j) := by
  have hall : ∀ x : Fin 32, ∀ y : Fin 32, (0 ≤ xand (x.1 : Int) (xxor (y.1 : Int) (-1)) ∧ xand (x.1 : Int) (xxor (y.1 : Int) (-1)) < 32) ∧ ∀ j : Fin 5, tb (xand (x.1 : Int) (xxor (y.1 : Int) (-1))) j.1 = (tb (x.1 : Int) j.1 && !tb (y.1 : Int) j.1) := by decide +kernel
  have := hall ⟨x.toNat, by omega⟩ ⟨y.toNat, by omega⟩
  dsimp only at this
  rw [show ((x.toNat : Nat) : Int) = x by omega, show ((y.toNat : Nat) : Int) = y by omega] at this
  exact ⟨this.1, fun j hj => this.2 ⟨j, hj⟩⟩
theorem tb_one {k : Nat} (hk : k < 5) : (0 ≤ xshl 1 (k : Int) ∧ xshl 1 (k : Int) < 32) ∧ ∀ j, j < 5 → tb (xshl 1 (k : Int)) j = decide (j = k) := by
  have hall : ∀ k : Fin 5, (0 ≤ xshl 1 (k.1 : Int) ∧ xshl 1 (k.1 : Int) < 32) ∧ ∀ j : Fin 5, tb (xshl 1 (k.1 : Int)) j.1 = decide (j.1 = k.1) := by decide +kernel
  exact ⟨(hall ⟨k, hk⟩).1, fun j hj => (hall ⟨k, hk⟩).2 ⟨j, hj⟩⟩
theorem pc_lt {x y : Int} (hx : 0 ≤ x ∧ x < 32) (hy : 0 ≤ y ∧ y < 32) (h : ∀ j, j < 5 → tb x j = true → tb y j = true) (hn : x ≠ y) : cntB (tb x) 5 < cntB (tb y) 5 := by
  have hall : ∀ x : Fin 32, ∀ y : Fin 32, (∀ j : Fin 5, tb (x.1 : Int) j.1 = true → tb (y.1 : Int) j.1 = true) → x ≠ y → cntB (tb (x.1 : Int)) 5 < cntB (tb (y.1 : Int)) 5 := by decide +kernel
  have e1 : ((x.toNat : Nat) : Int) = x := by omega
  have e2 : ((y.toNat : Nat) : Int) = y := by omega
  have := hall ⟨x.toNat, by omega⟩ ⟨y.toNat, by omega⟩ (fun j => by dsimp only; rw [e1, e2]; exact h j.1 j.2) (fun e => hn (by have := congrArg Fin.val e; dsimp only at this; omega))
  dsimp only at this
  rwa [e1, e2] at this
theorem pc_le {x : Int} {n : Nat} (hx : 0 ≤ x ∧ x < 32) (hn : n ≤ 5) (h : ∀ j, j < 5 → tb x j = true → j < n) : cntB (tb x) 5 ≤ (n : Int) := by
  have hall : ∀ x : Fin 32, ∀ n : Fin 6, (∀ j : Fin 5, tb (x.1 : Int) j.1 = true → j.1 < n.1) → cntB (tb (x.1 : Int)) 5 ≤ (n.1 : Int) := by decide +kernel
  have e1 : ((x.toNat : Nat) : Int) = x := by omega
  have := hall ⟨x.toNat, by omega⟩ ⟨n, by omega⟩ (fun j => by dsimp only; rw [e1]; exact h j.1 j.2)
  dsimp only at this
  rwa [e1] at this
theorem pc_pos {x : Int} {j : Nat} (hx : 0 ≤ x ∧ x < 32) (hj : j < 5) (h : tb x j = true) : 1 ≤ cntB (tb x) 5 := by
  have hall : ∀ x : Fin 32, ∀ j : Fin 5, tb (x.1 : Int) j.1 = true → 1 ≤ cntB (tb (x.1 : Int)) 5 := by decide +kernel
  have e1 : ((x.toNat : Nat) : Int) = x := by omega
  have := hall ⟨x.toNat, by omega⟩ ⟨j, hj⟩ (by dsimp only; rw [e1]; exact h)
  dsimp only at this
  rwa [e1] at this
theorem tbe {x : Int} {j : Nat} (hx : 0 ≤ x ∧ x < 32) (hj : j < 5) : (xand (xshr x (j : Int)) 1 = 1) = (tb x j = true) := by
  rw [bit_tb hx hj]
  cases tb x j <;> simp
theorem yr198 {V : xF} {D : yD} {x : Int} {j : Nat} (hx : 0 ≤ x ∧ x < 32) (hj : j < 5) : yr_198 x (j : Int) V D = if tb x j = true then 1 else 0 := by
  unfold yr_198
  rw [bit_tb hx hj]
  cases tb x j <;> rfl
theorem ite10 {P : Prop} [Decidable P] : ((if P then (1 : Int) else 0) = 0) = ¬ P := by split <;> simp_all
section DOORS
variable {d : Nat} {V : xF} {D : yD} {Q : xRes → xF → yD → Prop} {p : Rw}
def isNxt (p : Rw) (x y : Int) : Prop := (0 ≤ y ∧ y < 32) ∧ ∀ j, j < 5 → (tb y j = true ↔ (tb x j = true ∨ ∃ a : Nat, (a : Int) < p 3 ∧ tb x a = true ∧ dO_ p a j = 1))
theorem isNxt.uni {x y y' : Int} (h : isNxt p x y) (h' : isNxt p x y') : y = y' := tb_ext h.1 h'.1 fun j hj => by rw [Bool.eq_iff_iff, h.2 j hj, h'.2 j hj]
noncomputable def nxtF (p : Rw) (x : Int) : Int := Classical.epsilon (isNxt p x)
theorem isNxt.eq {x y : Int} (h : isNxt p x y) : y = nxtF p x := eps_eq (fun _ _ a b => a.uni b) h
theorem c_nxt {x : Int} (hS : St V 81 p) (hW : WF p) (hx : 0 ≤ x ∧ x < 32) (h : ∀ y, isNxt p x y → Q (.inl (some (vi y))) V D) : RY d 279 0 [vr 81, vi x, vr 0, vr 0] [] V D Q := by
  have h3 : 0 ≤ p 3 ∧ p 3 ≤ 5 := hW.1
  have e0 := hS.rooms
  refine u_279_0_81 ?_
  have main : ∀ (n k : Nat) (y : Int), (k : Int) + n = p 3 → (0 ≤ y ∧ y < 32) → (∀ j, j < 5 → (tb y j = true ↔ (tb x j = true ∨ ∃ a : Nat, a < k ∧ tb x a = true ∧ dO_ p a j = 1))) → RY d 279 4 [vr 81, vi x, vi y, vi (k : Int)] [] V D Q := by
    intro n
    induction n with
    | zero =>
      intro k y hk hy hb
      refine u_279_4_81 ⟨fun _ => h y ⟨hy, fun j hj => ?_⟩, fun h5 => by omega⟩
      rw [hb j hj]
      constructor
      · rintro (a | ⟨a, b, c⟩)
        · exact Or.inl a
        · exact Or.inr ⟨a, by omega, c⟩
      · rintro (a | ⟨a, b, c⟩)
        · exact Or.inl a
        · exact Or.inr ⟨a, by omega, c⟩
    | succ n ih =>
      intro k y hk hy hb
      have hk5 : k < 5 := by omega
      have e5 : V 86 k = dB_ p k := hS.2.2.2.2.2.1 k hk5
      refine u_279_4_81 ⟨fun h5 => by omega, fun _ => ?_⟩
      rw [wr_id (x := (k : Int) + 1) (by omega) (by omega), nn_toNat, e5, ne_eq, tbe hx hk5]
      refine ⟨fun h5 => ih (k + 1) y (by omega) hy fun j hj => ?_, fun h5 => ⟨by omega, ?_⟩⟩
      · rw [hb j hj]
        constructor
        · rintro (a | ⟨a, b, c⟩)
          · exact Or.inl a
          · exact Or.inr ⟨a, by omega, c⟩
        · rintro (a | ⟨a, b, c⟩)
          · exact Or.inl a
          · by_cases e : a = k
            · subst e; exact absurd c.1 h5
            · exact Or.inr ⟨a, by omega, c⟩
      · have hl := tb_lor hy (dB_b hW hk5)
        refine ih (k + 1) _ (by omega) hl.1 fun j hj => ?_
        rw [hl.2 j hj, Bool.or_eq_true, hb j hj, dB_tb hW hk5 hj, decide_eq_true_iff]
        constructor
        · rintro ((a | ⟨a, b, c⟩) | a)
          · exact Or.inl a
          · exact Or.inr ⟨a, by omega, c⟩
          · exact Or.inr ⟨k, by omega, h5, a⟩
        · rintro (a | ⟨a, b, c⟩)
          · exact Or.inl (Or.inl a)
          · by_cases e : a = k
            · subst e; exact Or.inr c.2
            · exact Or.inl (Or.inr ⟨a, by omega, c⟩)
  exact main (p 3).toNat 0 x (by omega) hx fun j hj => ⟨Or.inl, fun hh => by
    rcases hh with a | ⟨a, b, -⟩
    · exact a
    · omega⟩
noncomputable def wayT (p : Rw) (o : Nat) : Nat → Int → Int → Int
  | 0, _, _ => -1
  | k + 1, n, x => @ite _ (tb x o = true) (Classical.propDecidable _) n (wayT p o k (n + 1) (nxtF p x))
noncomputable def aWay (p : Rw) (r o : Int) : aRes := aIf (twoR p r o) (.inl (wayT p o.toNat 5 0 (xshl 1 r))) (.inr 2)
theorem ca_way {r o : Int} (hS : St V 81 p) (hW : WF p) (h : ∀ D', CorD D D' → Q (cRes (aWay p r o)) V D') : RY d 197 0 [vr 70, vi r, vi o, vr 0, vr 0] [] V D Q := by
  unfold aWay at h
  refine u_197_0 (c_needRoom hS (fun hr => ?_) (fun hr => ⟨rfl, ?_⟩))
  · refine u_197_5 (c_needRoom hS (fun ho => ?_) (fun ho => ⟨rfl, ?_⟩))
    · rw [aIf_y ⟨hr, ho⟩] at h
      have hq := h D CorD.rf
      obtain ⟨R, hR⟩ : ∃ R, R = wayT p o.toNat 5 0 (xshl 1 r) := ⟨_, rfl⟩
      rw [← hR] at hq
      obtain ⟨r5, er⟩ := hW.r5 hr
      obtain ⟨o5, eo⟩ := hW.r5 ho
      refine u_197_10 ?_
      have main : ∀ (n k : Nat) (x : Int), k + n = 5 → (0 ≤ x ∧ x < 32) → wayT p o.toNat n (k : Int) x = R → RY d 197 17 [vr 70, vi r, vi o, vi x, vi (k : Int)] [] V D Q := by
        intro n
        induction n with
        | zero =>
          intro k x hk hx he
          refine u_197_17 ⟨fun _ => ?_, fun h5 => by omega⟩
          rw [← he] at hq
          exact hq
        | succ n ih =>
          intro k x hk hx he
          refine u_197_17 ⟨fun h5 => by omega, fun _ => ?_⟩
          have et := tbe hx o5
          rw [eo] at et
          rw [ne_eq, et]
          unfold wayT at he
          refine ⟨fun h5 => ?_, fun h5 => ?_⟩
          · rw [if_neg h5] at he
            refine c_nxt hS hW hx fun y hy => u_197_43 ?_
            rw [wr_id (by omega) (by omega)]
            refine ih (k + 1) y (by omega) hy.1 ?_
            rw [hy.eq, ← he, show (((k + 1 : Nat)) : Int) = (k : Int) + 1 by omega]
          · rw [if_pos h5] at he
            rw [← he] at hq
            exact hq
      have h1 := (tb_one r5).1
      rw [er] at h1
      exact main 5 0 _ (by omega) h1 hR.symm
    · rw [aIf_n (fun hc => ho hc.2)] at h; exact h _ CorD.exc
  · rw [aIf_n (fun hc => hr hc.1)] at h; exact h _ CorD.exc
theorem ma_way {r o : Int} (hW : WF (V 406)) (h : ∀ V', V' 405 0 = mCd 2 (aWay (V 406) r o) → Cor V V' → Q (.inl (some (vi (mVal (aWay (V 406) r o))))) V' D) : RY d 64 0 [vr 405, vi r, vi o, vr 0, vr 0, vr 0, vr 0, vr 0] [] V D Q := by
  unfold aWay at h
  refine u_64_0 ⟨yg132, ?_⟩
  rw [yr132 hW, yr132 hW]
  have no : ¬ twoR (V 406) r o → ∀ V1 : xF, V1 = up2 V 405 0 1 → (((V1 405 0) ≤ 0 → RY d 64 41 [vr 405, vi r, vi o, vi (xshl 1 r), vi 0, vr 0, vr 0, vr 0] [] V1 D Q) ∧ ((0 : Int) < (V1 405 0) → Q (.inl (some (vi 0))) V1 D)) := by
    intro hn V1 hV1
    rw [aIf_n hn] at h
    have t0 : V1 405 0 = 1 := by rw [hV1]; exact v405.1
    exact ⟨fun h5 => by omega, fun _ => h V1 t0 (by rw [hV1]; exact v405.2.2)⟩
  by_cases hr : 0 ≤ r ∧ r < V 406 3
  · rw [if_pos hr]
    refine ⟨fun h5 => absurd h5 (by decide), fun _ => ⟨yg132, ?_⟩⟩
    by_cases ho : 0 ≤ o ∧ o < V 406 3
    · rw [if_pos ho]
      refine ⟨fun _ => ?_, fun h5 => absurd h5 (by decide)⟩
      rintro V1 hV1
      rw [aIf_y ⟨hr, ho⟩] at h
      have e6 : V1 406 = V 406 := by rw [hV1]; exact v405.2.1
      have t0 : V1 405 0 = 0 := by rw [hV1]; exact v405.1
      have hq := h V1 t0 (by rw [hV1]; exact v405.2.2)
      clear hV1 h no
      dsimp only [mVal] at hq
      rw [← e6] at hq hW hr ho
      have h3 : 0 ≤ V1 406 3 ∧ V1 406 3 ≤ 5 := hW.1
      obtain ⟨r5, er⟩ := hW.r5 hr
      obtain ⟨o5, eo⟩ := hW.r5 ho
      refine ⟨fun _ => ?_, fun h5 => by omega⟩
      obtain ⟨N, hN⟩ : ∃ N : Nat, V1 406 3 = (N : Int) := ⟨(V1 406 3).toNat, by omega⟩
      obtain ⟨R, hR⟩ : ∃ R, R = wayT (V1 406) o.toNat 5 0 (xshl 1 r) := ⟨_, rfl⟩
      rw [← hR] at hq
      have nx : ∀ (x i4 : Int), (0 ≤ x ∧ x < 32) → (∀ y v5 v6 v7, isNxt (V1 406) x y → RY d 64 41 [vr 405, vi r, vi o, vi y, vi (wr (i4 + 1)), v5, v6, v7] [] V1 D Q) → ∀ v7, RY d 64 64 [vr 405, vi r, vi o, vi x, vi i4, vi x, vi 0, v7] [] V1 D Q := by
        intro x i4 hx hn
        have inner : ∀ (n b a : Nat) (y : Int), b + n = N → a < N → (0 ≤ y ∧ y < 32) → (∀ j, j < 5 → (tb y j = true ↔ (tb x j = true ∨ (∃ a' : Nat, a' < a ∧ tb x a' = true ∧ dO_ (V1 406) a' j = 1) ∨ (j < b ∧ tb x a = true ∧ dO_ (V1 406) a j = 1)))) → (∀ y v7, (0 ≤ y ∧ y < 32) → (∀ j, j < 5 → (tb y j = true ↔ (tb x j = true ∨ ∃ a' : Nat, a' < a + 1 ∧ tb x a' = true ∧ dO_ (V1 406) a' j = 1))) → RY d 64 64 [vr 405, vi r, vi o, vi x, vi i4, vi y, vi (((a + 1 : Nat)) : Int), v7] [] V1 D Q) → RY d 64 78 [vr 405, vi r, vi o, vi x, vi i4, vi y, vi (a : Int), vi (b : Int)] [] V1 D Q := by
          intro n
          induction n with
          | zero =>
            intro b a y hb ha hy hbits hx2
            refine u_64_78 ⟨fun _ => ?_, fun h5 => by omega⟩
            rw [wr_id (by omega) (by omega)]
            refine hx2 y _ hy fun j hj => ?_
            rw [hbits j hj]
            constructor
            · rintro (c | ⟨a', c1, c2⟩ | ⟨c1, c2⟩)
              · exact Or.inl c
              · exact Or.inr ⟨a', by omega, c2⟩
              · exact Or.inr ⟨a, by omega, c2⟩
            · rintro (c | ⟨a', c1, c2⟩)
              · exact Or.inl c
              · by_cases e : a' = a
                · subst e
                  have := (hW.dor (show a' < 5 by omega) hj).2.2 c2.2
                  exact Or.inr (Or.inr ⟨by omega, c2⟩)
                · exact Or.inr (Or.inl ⟨a', by omega, c2⟩)
          | succ n ih =>
            intro b a y hb ha hy hbits hx2
            have a5 : a < 5 := by omega
            have b5 : b < 5 := by omega
            refine u_64_78 ⟨fun h5 => by omega, fun _ => ?_⟩
            rw [ne_eq, yr198 hx a5, yr152 hW a5 b5, ite10, Classical.not_not, ite10]
            rw [wr_id (x := (b : Int) + 1) (by omega) (by omega)]
            have skip : ¬ (tb x a = true ∧ dO_ (V1 406) a b = 1) → RY d 64 78 [vr 405, vi r, vi o, vi x, vi i4, vi y, vi (a : Int), vi (((b + 1 : Nat)) : Int)] [] V1 D Q := by
              intro hc
              refine ih (b + 1) a y (by omega) ha hy (fun j hj => ?_) hx2
              rw [hbits j hj]
              constructor
              · rintro (c | c | ⟨c1, c2⟩)
                · exact Or.inl c
                · exact Or.inr (Or.inl c)
                · exact Or.inr (Or.inr ⟨by omega, c2⟩)
              · rintro (c | c | ⟨c1, c2⟩)
                · exact Or.inl c
                · exact Or.inr (Or.inl c)
                · by_cases e : j = b
                  · subst e; exact absurd c2 hc
                  · exact Or.inr (Or.inr ⟨by omega, c2⟩)
            refine ⟨fun h5 => skip (fun hc => h5 hc.1), fun h5 => ⟨yg152 a5 b5, fun h6 => skip (fun hc => h6 hc.2), fun h6 => ?_⟩⟩
            have h6 : dO_ (V1 406) a b = 1 := by apply Classical.byContradiction; intro hc; rw [if_neg hc] at h6; exact h6 rfl
            refine ih (b + 1) a _ (by omega) ha (or_lt hy b5) (fun j hj => ?_) hx2
            rw [tb_or hy b5 hj, Bool.or_eq_true, hbits j hj, decide_eq_true_iff]
            constructor
            · rintro ((c | c | ⟨c1, c2⟩) | c)
              · exact Or.inl c
              · exact Or.inr (Or.inl c)
              · exact Or.inr (Or.inr ⟨by omega, c2⟩)
              · subst c; exact Or.inr (Or.inr ⟨by omega, h5, h6⟩)
            · rintro (c | c | ⟨c1, c2⟩)
              · exact Or.inl (Or.inl c)
              · exact Or.inl (Or.inr (Or.inl c))
              · by_cases e : j = b
                · exact Or.inr e
                · exact Or.inl (Or.inr (Or.inr ⟨by omega, c2⟩))
        have outer : ∀ (n a : Nat) (y : Int) (v7 : xV), a + n = N → (0 ≤ y ∧ y < 32) → (∀ j, j < 5 → (tb y j = true ↔ (tb x j = true ∨ ∃ a' : Nat, a' < a ∧ tb x a' = true ∧ dO_ (V1 406) a' j = 1))) → RY d 64 64 [vr 405, vi r, vi o, vi x, vi i4, vi y, vi (a : Int), v7] [] V1 D Q := by
          intro n
          induction n with
          | zero =>
            intro a y v7 ha hy hbits
            refine u_64_64 ⟨fun _ => hn y _ _ _ ⟨hy, fun j hj => ?_⟩, fun h5 => by omega⟩
            rw [hbits j hj]
            constructor
            · rintro (c | ⟨a', c1, c2⟩)
              · exact Or.inl c
              · exact Or.inr ⟨a', by omega, c2⟩
            · rintro (c | ⟨a', c1, c2⟩)
              · exact Or.inl c
              · exact Or.inr ⟨a', by omega, c2⟩
          | succ n ih =>
            intro a y v7 ha hy hbits
            refine u_64_64 ⟨fun h5 => by omega, fun _ => ?_⟩
            refine inner N 0 a y (by omega) (by omega) hy (fun j hj => ?_) (fun y v7 hy hb => ih (a + 1) y v7 (by omega) hy hb)
            rw [hbits j hj]
            constructor
            · rintro (c | c)
              · exact Or.inl c
              · exact Or.inr (Or.inl c)
            · rintro (c | c | ⟨c1, c2⟩)
              · exact Or.inl c
              · exact Or.inr c
              · omega
        intro v7
        exact outer N 0 x v7 (by omega) hx fun j hj => ⟨Or.inl, fun hh => by
          rcases hh with c | ⟨a, c, -⟩
          · exact c
          · omega⟩
      have main : ∀ (n k : Nat) (x : Int) (v5 v6 v7 : xV), k + n = 5 → (0 ≤ x ∧ x < 32) → wayT (V1 406) o.toNat n (k : Int) x = R → RY d 64 41 [vr 405, vi r, vi o, vi x, vi (k : Int), v5, v6, v7] [] V1 D Q := by
        intro n
        induction n with
        | zero =>
          intro k x v5 v6 v7 hk hx he
          refine u_64_41 ⟨fun _ => ?_, fun h5 => by omega⟩
          rw [← he] at hq
          exact hq
        | succ n ih =>
          intro k x v5 v6 v7 hk hx he
          refine u_64_41 ⟨fun h5 => by omega, fun _ => ?_⟩
          have et := yr198 (V := V1) (D := D) hx o5
          rw [eo] at et
          rw [ne_eq, et, ite10, Classical.not_not]
          unfold wayT at he
          refine ⟨fun h5 => ?_, fun h5 => ?_⟩
          · rw [if_neg h5] at he
            refine nx x k hx (fun y v5 v6 v7 hy => ?_) v7
            rw [wr_id (by omega) (by omega)]
            refine ih (k + 1) y v5 v6 v7 (by omega) hy.1 ?_
            rw [hy.eq, ← he, show (((k + 1 : Nat)) : Int) = (k : Int) + 1 by omega]
          · rw [if_pos h5] at he
            rw [← he] at hq
            exact hq
      have h1 := (tb_one r5).1
      rw [er] at h1
      exact main 5 0 _ _ _ _ (by omega) h1 hR.symm
    · rw [if_neg ho]
      exact ⟨fun h5 => absurd rfl h5, fun _ => no (fun hc => ho hc.2)⟩
  · rw [if_neg hr]
    exact ⟨fun _ => no (fun hc => hr hc.1), fun h5 => absurd rfl h5⟩
/-! ===== wings ===== -/
def clo (p : Rw) (but : Int) (x : Int) : Prop := ∀ a j, a < 5 → j < 5 → tb x a = true → dO_ p a j = 1 → (j : Int) ≠ but → tb x j = true
def wPre (p : Rw) (r : Nat) (but x : Int) : Prop := (0 ≤ x ∧ x < 32) ∧ tb x r = true ∧ (∀ j, j < 5 → tb x j = true → (j : Int) < p 3 ∧ (j : Int) ≠ but) ∧ ∀ y, (0 ≤ y ∧ y < 32) → tb y r = true → clo p but y → ∀ j, j < 5 → tb x j = true → tb y j = true
def isWing (p : Rw) (r : Nat) (but x : Int) : Prop := wPre p r but x ∧ clo p but x
theorem isWing.uni {r : Nat} {but x y : Int} (h : isWing p r but x) (h' : isWing p r but y) : x = y :=
  tb_ext h.1.1 h'.1.1 fun j hj => by
    rw [Bool.eq_iff_iff]
    exact ⟨h.1.2.2.2 y h'.1.1 h'.1.2.1 h'.2 j hj, h'.1.2.2.2 x h.1.1 h.1.2.1 h.2 j hj⟩
noncomputable def wingF (p : Rw) (r : Nat) (but : Int) : Int := Classical.epsilon (isWing p r but)
theorem isWing.eq {r : Nat} {but x : Int} (h : isWing p r but x) : x = wingF p r but := eps_eq (fun _ _ a b => a.uni b) h
theorem w_grow {r : Nat} {but x y : Int} {k : Int} (hr : r < 5) (hx : wPre p r but x) (hy : wPre p r but y) (hs : ∀ j, j < 5 → tb x j = true → tb y j = true) (hc : y = x → clo p but x) (hk : clo p but x ∨ k ≤ cntB (tb x) 5) : clo p but y ∨ k + 1 ≤ cntB (tb y) 5 := by
  by_cases e : y = x
  · left; rw [e]; exact hc e
  · rcases hk with hk | hk
    · exact absurd (tb_ext hy.1 hx.1 fun j hj => by rw [Bool.eq_iff_iff]; exact ⟨hy.2.2.2 x hx.1 hx.2.1 hk j hj, hs j hj⟩) e
    · right
      have := pc_lt hx.1 hy.1 hs (fun e' => e e'.symm)
      omega
theorem w_one {r : Nat} {but : Int} (hW : WF p) (hr : (r : Int) < p 3) (hb : (r : Int) ≠ but) : wPre p r but (xshl 1 (r : Int)) := by
  have h3 : 0 ≤ p 3 ∧ p 3 ≤ 5 := hW.1
  have h1 := tb_one (k := r) (by omega)
  refine ⟨h1.1, by rw [h1.2 r (by omega)]; simp, fun j hj h => ?_, fun y hy hyr _ j hj h => ?_⟩
  · rw [h1.2 j hj, decide_eq_true_iff] at h; subst h; exact ⟨hr, hb⟩
  · rw [h1.2 j hj, decide_eq_true_iff] at h; subst h; exact hyr
/-- all rooms through one by one: a step of the class -/
theorem w_step {r : Nat} {but x y z : Int} (hW : WF p) (hx : wPre p r but x) (hy : isNxt p x y) (hz : 0 ≤ z ∧ z < 32) (hb : ∀ j, j < 5 → (tb z j = true ↔ (tb y j = true ∧ (j : Int) ≠ but))) : wPre p r but z ∧ (∀ j, j < 5 → tb x j = true → tb z j = true) ∧ (z = x → clo p but x) := by
  have h3 : 0 ≤ p 3 ∧ p 3 ≤ 5 := hW.1
  obtain ⟨x1, x2, x3, x4⟩ := hx
  have sub : ∀ j, j < 5 → tb x j = true → tb z j = true := fun j hj h => (hb j hj).mpr ⟨(hy.2 j hj).mpr (Or.inl h), (x3 j hj h).2⟩
  have hr : r < 5 := by
    apply Classical.byContradiction
    intro hc
    have : x.toNat < 2 ^ r := Nat.lt_of_lt_of_le (by omega : x.toNat < 2 ^ 5) (Nat.pow_le_pow_right (by decide) (by omega))
    have h0 : Nat.testBit x.toNat r = false := Nat.testBit_lt_two_pow this
    have x2' : Nat.testBit x.toNat r = true := x2
    rw [h0] at x2'
    cases x2'
  refine ⟨⟨hz, sub r hr x2, fun j hj h => ?_, fun w hw hwr hwc j hj h => ?_⟩, sub, fun e a j ha hj h1 h2 h3 => ?_⟩
  · obtain ⟨h1, h2⟩ := (hb j hj).mp h
    rcases (hy.2 j hj).mp h1 with h1 | ⟨a, a1, a2, a3⟩
    · exact x3 j hj h1
    · exact ⟨((hW.dor (show a < 5 by omega) hj).2.2 a3).2.1, h2⟩
  · obtain ⟨h1, h2⟩ := (hb j hj).mp h
    rcases (hy.2 j hj).mp h1 with h1 | ⟨a, a1, a2, a3⟩
    · exact x4 w hw hwr hwc j hj h1
    · exact hwc a j (by omega) hj (x4 w hw hwr hwc a (by omega) a2) a3 h2
  · rw [← e]
    exact (hb j hj).mpr ⟨(hy.2 j hj).mpr (Or.inr ⟨a, (x3 a ha h1).1, h1, h2⟩), h3⟩
theorem c_reach {r : Nat} {but : Int} (hS : St V 81 p) (hW : WF p) (hr : (r : Int) < p 3) (hb : (r : Int) ≠ but) (hb5 : -1 ≤ but ∧ but < 5) (h : Q (.inl (some (vi (wingF p r but)))) V D) : RY d 201 0 [vr 81, vi (r : Int), vi but, vr 0, vr 0, vr 0] [] V D Q := by
  have h3 : 0 ≤ p 3 ∧ p 3 ≤ 5 := hW.1
  have e0 := hS.rooms
  have r5 : r < 5 := by omega
  have main : ∀ (m : Int), (0 ≤ m ∧ m < 32) → (∀ j, j < 5 → (tb m j = true ↔ (j : Int) = but)) → ∀ (n k : Nat) (x : Int), (k : Int) + n = p 3 → wPre p r but x → (clo p but x ∨ (k : Int) + 1 ≤ cntB (tb x) 5) → RY d 201 25 [vr 81, vi (r : Int), vi but, vi m, vi x, vi (k : Int)] [] V D Q := by
    intro m hm hmb n
    induction n with
    | zero =>
      intro k x hk hx hp
      refine u_201_25_81 ⟨fun _ => ?_, fun h5 => by omega⟩
      have hcl : clo p but x := by
        rcases hp with hp | hp
        · exact hp
        · have := pc_le (n := (p 3).toNat) hx.1 (by omega) (fun j hj hh => by have := (hx.2.2.1 j hj hh).1; omega)
          omega
      have hw : isWing p r but x := ⟨hx, hcl⟩
      rw [hw.eq]
      exact h
    | succ n ih =>
      intro k x hk hx hp
      refine u_201_25_81 ⟨fun h5 => by omega, fun _ => c_nxt hS hW hx.1 fun y hy => u_201_40_81 ?_⟩
      rw [wr_id (by omega) (by omega)]
      have hz := tb_dif hy.1 hm
      have hst := w_step hW hx hy hz.1 (fun j hj => by
        rw [hz.2 j hj, Bool.and_eq_true, Bool.not_eq_true']
        have := hmb j hj
        cases hmj : tb m j with
        | true => rw [hmj] at this; simp [this.mp rfl]
        | false =>
          rw [hmj] at this
          have : ¬ (j : Int) = but := fun e => by have := this.mpr e; cases this
          simp [this])
      have := w_grow r5 hx hst.1 hst.2.1 hst.2.2 hp
      exact ih (k + 1) _ (by omega) hst.1 (by rcases this with t | t; exact Or.inl t; right; omega)
  have h1 := tb_one r5
  have w1 := w_one hW hr hb
  have pc1 := pc_pos w1.1 r5 w1.2.1
  have eq1 : ∀ m : Int, (0 ≤ m ∧ m < 32) → (∀ j, j < 5 → (tb m j = true ↔ (j : Int) = but)) → xand (xshl 1 (r : Int)) (xxor m (-1)) = xshl 1 (r : Int) := by
    intro m hm hmb
    have hz := tb_dif h1.1 hm
    refine tb_ext hz.1 h1.1 fun j hj => ?_
    rw [hz.2 j hj, h1.2 j hj]
    by_cases e : j = r
    · subst e
      have : tb m j = false := by
        cases hmj : tb m j with
        | true => exact absurd ((hmb j hj).mp hmj) hb
        | false => rfl
      rw [this]; simp
    · simp [e]
  refine u_201_0_81 ⟨fun h5 => ?_, fun h5 => ?_⟩
  · obtain ⟨b, hbb⟩ : ∃ b : Nat, but = (b : Int) := ⟨but.toNat, by omega⟩
    subst hbb
    have hm := tb_one (k := b) (by omega)
    have hm2 : ∀ j, j < 5 → (tb (xshl 1 (b : Int)) j = true ↔ (j : Int) = (b : Int)) := fun j hj => by rw [hm.2 j hj, decide_eq_true_iff]; omega
    rw [eq1 _ hm.1 hm2]
    exact main _ hm.1 hm2 (p 3).toNat 0 _ (by omega) w1 (Or.inr (by omega))
  · have hm2 : ∀ j, j < 5 → (tb 0 j = true ↔ (j : Int) = but) := fun j hj => by
      have : tb 0 j = false := Nat.zero_testBit j
      rw [this]
      exact ⟨fun h => (by cases h), fun h => by omega⟩
    rw [eq1 _ ⟨by decide, by decide⟩ hm2]
    exact main _ ⟨by decide, by decide⟩ hm2 (p 3).toNat 0 _ (by omega) w1 (Or.inr (by omega))
theorem m_wingBy {r : Nat} {but : Int} (hW : WF (V 406)) (hr : (r : Int) < V 406 3) (hb : (r : Int) ≠ but) (h : Q (.inl (some (vi (wingF (V 406) r but)))) V D) : RY d 200 0 [vr 405, vi (r : Int), vi but, vr 0, vr 0, vr 0, vr 0] [] V D Q := by
  have h3 : 0 ≤ V 406 3 ∧ V 406 3 ≤ 5 := hW.1
  have r5 : r < 5 := by omega
  obtain ⟨N, hN⟩ : ∃ N : Nat, V 406 3 = (N : Int) := ⟨(V 406 3).toNat, by omega⟩
  refine u_200_0 ?_
  -- one round
  have round : ∀ (x i4 : Int), wPre (V 406) r but x → (∀ y v5 v6, wPre (V 406) r but y → (∀ j, j < 5 → tb x j = true → tb y j = true) → (y = x → clo (V 406) but x) → RY d 200 7 [vr 405, vi (r : Int), vi but, vi y, vi (wr (i4 + 1)), v5, v6] [] V D Q) → ∀ v6, RY d 200 16 [vr 405, vi (r : Int), vi but, vi x, vi i4, vi 0, v6] [] V D Q := by
    intro x i4 hx hn
    have inner : ∀ (n b a : Nat) (y : Int), b + n = N → a < N → wPre (V 406) r but y → (∀ j, j < 5 → tb x j = true → tb y j = true) → (∀ a' j, a' < 5 → j < 5 → (a' < a ∨ (a' = a ∧ j < b)) → tb x a' = true → dO_ (V 406) a' j = 1 → (j : Int) ≠ but → tb y j = true) → (∀ y v6, wPre (V 406) r but y → (∀ j, j < 5 → tb x j = true → tb y j = true) → (∀ a' j, a' < 5 → j < 5 → a' < a + 1 → tb x a' = true → dO_ (V 406) a' j = 1 → (j : Int) ≠ but → tb y j = true) → RY d 200 16 [vr 405, vi (r : Int), vi but, vi y, vi i4, vi (((a + 1 : Nat)) : Int), v6] [] V D Q) → RY d 200 30 [vr 405, vi (r : Int), vi but, vi y, vi i4, vi (a : Int), vi (b : Int)] [] V D Q := by
      intro n
      induction n with
      | zero =>
        intro b a y hb' ha hy hs hd hx2
        refine u_200_30 ⟨fun _ => ?_, fun h5 => by omega⟩
        rw [wr_id (by omega) (by omega)]
        refine hx2 y _ hy hs fun a' j ha' hj hlt h1 h2 h3 => ?_
        refine hd a' j ha' hj ?_ h1 h2 h3
        have := (hW.dor ha' hj).2.2 h2
        omega
      | succ n ih =>
        intro b a y hb' ha hy hs hd hx2
        have a5 : a < 5 := by omega
        have b5 : b < 5 := by omega
        refine u_200_30 ⟨fun h5 => by omega, fun _ => ?_⟩
        rw [ne_eq, yr198 hy.1 a5, yr152 hW a5 b5, ite10, Classical.not_not, ite10]
        rw [wr_id (x := (b : Int) + 1) (by omega) (by omega)]
        have skip : ¬ (tb y a = true ∧ dO_ (V 406) a b = 1 ∧ (b : Int) ≠ but) → RY d 200 30 [vr 405, vi (r : Int), vi but, vi y, vi i4, vi (a : Int), vi (((b + 1 : Nat)) : Int)] [] V D Q := by
          intro hc
          refine ih (b + 1) a y (by omega) ha hy hs (fun a' j ha' hj hlt h1 h2 h3 => ?_) hx2
          by_cases e : a' = a ∧ j = b
          · obtain ⟨e1, e2⟩ := e
            subst e1 e2
            exact absurd ⟨hs a' ha' h1, h2, h3⟩ hc
          · exact hd a' j ha' hj (by omega) h1 h2 h3
        refine ⟨fun h5 => skip (fun hc => h5 hc.1), fun h5 => ⟨fun h6 => skip (fun hc => hc.2.2 h6), fun h6 => ⟨yg152 a5 b5, fun h7 => skip (fun hc => h7 hc.2.1), fun h7 => ?_⟩⟩⟩
        have h7 : dO_ (V 406) a b = 1 := by apply Classical.byContradiction; intro hc; rw [if_neg hc] at h7; exact h7 rfl
        have hlt := (hW.dor a5 b5).2.2 h7
        refine ih (b + 1) a _ (by omega) ha ?_ (fun j hj hh => by rw [tb_or hy.1 b5 hj, hs j hj hh]; rfl) (fun a' j ha' hj hl h1 h2 h3 => ?_) hx2
        · refine ⟨or_lt hy.1 b5, by rw [tb_or hy.1 b5 r5, hy.2.1]; rfl, fun j hj hh => ?_, fun w hw hwr hwc j hj hh => ?_⟩
          · rw [tb_or hy.1 b5 hj, Bool.or_eq_true, decide_eq_true_iff] at hh
            rcases hh with hh | hh
            · exact hy.2.2.1 j hj hh
            · subst hh; exact ⟨hlt.2.1, h6⟩
          · rw [tb_or hy.1 b5 hj, Bool.or_eq_true, decide_eq_true_iff] at hh
            rcases hh with hh | hh
            · exact hy.2.2.2 w hw hwr hwc j hj hh
            · subst hh; exact hwc a j a5 hj (hy.2.2.2 w hw hwr hwc a a5 h5) h7 h6
        · rw [tb_or hy.1 b5 hj, Bool.or_eq_true, decide_eq_true_iff]
          by_cases e : j = b
          · exact Or.inr e
          · exact Or.inl (hd a' j ha' hj (by omega) h1 h2 h3)
    have outer : ∀ (n a : Nat) (y : Int) (v6 : xV), a + n = N → wPre (V 406) r but y → (∀ j, j < 5 → tb x j = true → tb y j = true) → (∀ a' j, a' < 5 → j < 5 → a' < a → tb x a' = true → dO_ (V 406) a' j = 1 → (j : Int) ≠ but → tb y j = true) → RY d 200 16 [vr 405, vi (r : Int), vi but, vi y, vi i4, vi (a : Int), v6] [] V D Q := by
      intro n
      induction n with
      | zero =>
        intro a y v6 ha hy hs hd
        refine u_200_16 ⟨fun _ => hn y _ _ hy hs (fun e => fun a' j ha' hj h1 h2 h3 => ?_), fun h5 => by omega⟩
        have := hd a' j ha' hj (by have := (hx.2.2.1 a' ha' h1).1; omega) h1 h2 h3
        rwa [e] at this
      | succ n ih =>
        intro a y v6 ha hy hs hd
        refine u_200_16 ⟨fun h5 => by omega, fun _ => ?_⟩
        exact inner N 0 a y (by omega) (by omega) hy hs (fun a' j ha' hj hl => hd a' j ha' hj (by omega)) (fun y v6 hy hs hd => ih (a + 1) y v6 (by omega) hy hs hd)
    intro v6
    exact outer N 0 x v6 (by omega) hx (fun _ _ h => h) (fun a' j _ _ hl => by omega)
  have main : ∀ (n k : Nat) (x : Int) (v5 v6 : xV), k + n = 5 → wPre (V 406) r but x → (clo (V 406) but x ∨ (k : Int) + 1 ≤ cntB (tb x) 5) → RY d 200 7 [vr 405, vi (r : Int), vi but, vi x, vi (k : Int), v5, v6] [] V D Q := by
    intro n
    induction n with
    | zero =>
      intro k x v5 v6 hk hx hp
      refine u_200_7 ⟨fun _ => ?_, fun h5 => by omega⟩
      have hcl : clo (V 406) but x := by
        rcases hp with hp | hp
        · exact hp
        · have := cntB_b (tb x) 5
          omega
      have hw : isWing (V 406) r but x := ⟨hx, hcl⟩
      rw [hw.eq]
      exact h
    | succ n ih =>
      intro k x v5 v6 hk hx hp
      refine u_200_7 ⟨fun h5 => by omega, fun _ => round x k hx (fun y v5 v6 hy hs hc => ?_) v6⟩
      rw [wr_id (by omega) (by omega)]
      have := w_grow r5 hx hy hs hc hp
      exact ih (k + 1) y v5 v6 (by omega) hy (by rcases this with t | t; exact Or.inl t; right; omega)
  have w1 := w_one hW hr hb
  have pc1 := pc_pos w1.1 r5 w1.2.1
  exact main 5 0 _ _ _ (by omega) w1 (Or.inr (by omega))
noncomputable def aWing (p : Rw) (r : Int) : aRes := aIf (0 ≤ r ∧ r < p 3) (.inl (wingF p r.toNat (-1))) (.inr 2)
theorem ca_wing {r : Int} (hS : St V 81 p) (hW : WF p) (h : ∀ D', CorD D D' → Q (cRes (aWing p r)) V D') : RY d 199 0 [vr 70, vi r] [] V D Q := by
  unfold aWing at h
  refine u_199_0 (c_needRoom hS (fun hr => ?_) (fun hr => ⟨rfl, by rw [aIf_n hr] at h; exact h _ CorD.exc⟩))
  rw [aIf_y hr] at h
  obtain ⟨r5, er⟩ := hW.r5 hr
  refine u_199_5 ?_
  rw [← er]
  exact c_reach hS hW (by omega) (by omega) ⟨by omega, by omega⟩ (u_199_14 (h D CorD.rf))
theorem ma_wing {r : Int} (hW : WF (V 406)) (h : ∀ V', V' 405 0 = mCd 2 (aWing (V 406) r) → Cor V V' → Q (.inl (some (vi (mVal (aWing (V 406) r))))) V' D) : RY d 66 0 [vr 405, vi r] [] V D Q := by
  unfold aWing at h
  refine u_66_0 ⟨yg132, ?_⟩
  rw [yr132 hW]
  by_cases hr : 0 ≤ r ∧ r < V 406 3
  · rw [if_pos hr]
    rw [aIf_y hr] at h
    refine ⟨fun _ => ?_, fun h5 => absurd h5 (by decide)⟩
    rintro V1 hV1
    have e6 : V1 406 = V 406 := by rw [hV1]; exact v405.2.1
    have t0 : V1 405 0 = 0 := by rw [hV1]; exact v405.1
    have hq := h V1 t0 (by rw [hV1]; exact v405.2.2)
    clear hV1 h
    rw [← e6] at hq hW hr
    obtain ⟨r5, er⟩ := hW.r5 hr
    refine ⟨fun _ => ?_, fun h5 => by omega⟩
    rw [← er]
    exact m_wingBy hW (by omega) (by omega) (u_66_34 hq)
  · rw [if_neg hr]
    rw [aIf_n hr] at h
    refine ⟨fun h5 => absurd rfl h5, fun _ => ?_⟩
    rintro V1 hV1
    have t0 : V1 405 0 = 1 := by rw [hV1]; exact v405.1
    exact ⟨fun h5 => by omega, fun _ => h V1 t0 (by rw [hV1]; exact v405.2.2)⟩
/-! ===== hinges ===== -/
noncomputable def hgI (p : Rw) (r : Nat) : Nat → Int → Int
  | 0, x => x
  | a + 1, x => @ite _ (a ≠ r ∧ wingF p a (r : Int) ≠ xand (wingF p a (-1)) (xxor (xshl 1 (r : Int)) (-1))) (Classical.propDecidable _) (xor_ (hgI p r a x) (xshl 1 (r : Int))) (hgI p r a x)
noncomputable def hgO (p : Rw) : Nat → Int
  | 0 => 0
  | r + 1 => hgI p r (p 3).toNat (hgO p r)
noncomputable def hingeF (p : Rw) : Int := hgO p (p 3).toNat
theorem ca_hinge (hS : St V 81 p) (hW : WF p) (h : Q (.inl (some (vi (hingeF p)))) V D) : RY d 67 0 [vr 70, vr 0, vr 0, vr 0, vr 0] [] V D Q := by
  have h3 : 0 ≤ p 3 ∧ p 3 ≤ 5 := hW.1
  have e0 := hS.rooms
  refine u_67_0 ?_
  have inner : ∀ (n a r : Nat) (v4 : xV), (a : Int) + n = p 3 → (r : Int) < p 3 → (∀ v3 v4, RY d 67 4 [vr 70, vi (hgI p r (p 3).toNat (hgO p r)), vi (((r + 1 : Nat)) : Int), v3, v4] [] V D Q) → RY d 67 17 [vr 70, vi (hgI p r a (hgO p r)), vi (r : Int), vi (a : Int), v4] [] V D Q := by
    intro n
    induction n with
    | zero =>
      intro a r v4 ha hr hx
      have : (p 3).toNat = a := by omega
      rw [this] at hx
      refine u_67_17 ⟨fun _ => ?_, fun h5 => by omega⟩
      rw [wr_id (by omega) (by omega)]
      exact hx _ _
    | succ n ih =>
      intro a r v4 ha hr hx
      have ih' := fun v4 => ih (a + 1) r v4 (by omega) hr hx
      have eh : hgI p r (a + 1) (hgO p r) = @ite _ (a ≠ r ∧ wingF p a (r : Int) ≠ xand (wingF p a (-1)) (xxor (xshl 1 (r : Int)) (-1))) (Classical.propDecidable _) (xor_ (hgI p r a (hgO p r)) (xshl 1 (r : Int))) (hgI p r a (hgO p r)) := rfl
      refine u_67_17 ⟨fun h5 => by omega, fun _ => ?_⟩
      refine c_reach hS hW (by omega) (by omega) ⟨by omega, by omega⟩ (u_67_37 ?_)
      rw [wr_id (x := (a : Int) + 1) (by omega) (by omega)]
      refine ⟨fun h5 => ?_, fun h5 => ?_⟩
      · rw [if_neg (fun hc => hc.1 (by omega))] at eh
        rw [eh] at ih'
        exact ih' _
      · refine c_reach hS hW (by omega) h5 ⟨by omega, by omega⟩ (u_67_59 ⟨fun h6 => ?_, fun h6 => ?_⟩)
        · rw [wr_id (x := (a : Int) + 1) (by omega) (by omega)]
          rw [if_neg (fun hc => hc.2 h6)] at eh
          rw [eh] at ih'
          exact ih' _
        · rw [wr_id (x := (a : Int) + 1) (by omega) (by omega)]
          rw [if_pos ⟨by omega, h6⟩] at eh
          rw [eh] at ih'
          exact ih' _
  have outer : ∀ (n r : Nat) (v3 v4 : xV), (r : Int) + n = p 3 → RY d 67 4 [vr 70, vi (hgO p r), vi (r : Int), v3, v4] [] V D Q := by
    intro n
    induction n with
    | zero =>
      intro r v3 v4 hr
      have : (p 3).toNat = r := by omega
      unfold hingeF at h
      rw [this] at h
      exact u_67_4 ⟨fun _ => h, fun h5 => by omega⟩
    | succ n ih =>
      intro r v3 v4 hr
      refine u_67_4 ⟨fun h5 => by omega, fun _ => ?_⟩
      exact inner (p 3).toNat 0 r v4 (by omega) (by omega) (fun v3 v4 => ih (r + 1) v3 v4 (by omega))
  exact outer (p 3).toNat 0 _ _ (by omega)
theorem ma_hinge (hW : WF (V 406)) (h : ∀ V', V' 405 0 = 0 → Cor V V' → Q (.inl (some (vi (hingeF (V 406))))) V' D) : RY d 68 0 [vr 405, vr 0, vr 0, vr 0] [] V D Q := by
  refine u_68_0 ?_
  rintro V1 hV1
  have e6 : V1 406 = V 406 := by rw [hV1]; exact v405.2.1
  have hq := h V1 (by rw [hV1]; exact v405.1) (by rw [hV1]; exact v405.2.2)
  clear hV1 h
  rw [← e6] at hq hW
  have h3 : 0 ≤ V1 406 3 ∧ V1 406 3 ≤ 5 := hW.1
  have inner : ∀ (n a r : Nat), (a : Int) + n = V1 406 3 → (r : Int) < V1 406 3 → (∀ v3, RY d 68 9 [vr 405, vi (hgI (V1 406) r (V1 406 3).toNat (hgO (V1 406) r)), vi (((r + 1 : Nat)) : Int), v3] [] V1 D Q) → RY d 68 21 [vr 405, vi (hgI (V1 406) r a (hgO (V1 406) r)), vi (r : Int), vi (a : Int)] [] V1 D Q := by
    intro n
    induction n with
    | zero =>
      intro a r ha hr hx
      have : (V1 406 3).toNat = a := by omega
      rw [this] at hx
      refine u_68_21 ⟨fun _ => ?_, fun h5 => by omega⟩
      rw [wr_id (by omega) (by omega)]
      exact hx _
    | succ n ih =>
      intro a r ha hr hx
      have ih' := ih (a + 1) r (by omega) hr hx
      have eh : hgI (V1 406) r (a + 1) (hgO (V1 406) r) = @ite _ (a ≠ r ∧ wingF (V1 406) a (r : Int) ≠ xand (wingF (V1 406) a (-1)) (xxor (xshl 1 (r : Int)) (-1))) (Classical.propDecidable _) (xor_ (hgI (V1 406) r a (hgO (V1 406) r)) (xshl 1 (r : Int))) (hgI (V1 406) r a (hgO (V1 406) r)) := rfl
      refine u_68_21 ⟨fun h5 => by omega, fun _ => ⟨fun h5 => ?_, fun h5 => ?_⟩⟩
      · rw [wr_id (x := (a : Int) + 1) (by omega) (by omega)]
        rw [if_neg (fun hc => hc.1 (by omega))] at eh
        rw [eh] at ih'
        exact ih'
      · refine m_wingBy hW (by omega) (by omega) (u_68_42 (m_wingBy hW (by omega) h5 (u_68_54 ⟨fun h6 => ?_, fun h6 => ?_⟩)))
        · rw [wr_id (x := (a : Int) + 1) (by omega) (by omega)]
          rw [if_neg (fun hc => hc.2 h6.symm)] at eh
          rw [eh] at ih'
          exact ih'
        · rw [wr_id (x := (a : Int) + 1) (by omega) (by omega)]
          rw [if_pos ⟨by omega, fun hc => h6 hc.symm⟩] at eh
          rw [eh] at ih'
          exact ih'
  have outer : ∀ (n r : Nat) (v3 : xV), (r : Int) + n = V1 406 3 → RY d 68 9 [vr 405, vi (hgO (V1 406) r), vi (r : Int), v3] [] V1 D Q := by
    intro n
    induction n with
    | zero =>
      intro r v3 hr
      have : (V1 406 3).toNat = r := by omega
      unfold hingeF at hq
      rw [this] at hq
      exact u_68_9 ⟨fun _ => hq, fun h5 => by omega⟩
    | succ n ih =>
      intro r v3 hr
      refine u_68_9 ⟨fun h5 => by omega, fun _ => ?_⟩
      exact inner (V1 406 3).toNat 0 r (by omega) (by omega) (fun v3 => ih (r + 1) v3 (by omega))
  exact outer (V1 406 3).toNat 0 _ (by omega)
end DOORS
