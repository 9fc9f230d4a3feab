/-! ===== A TEXT IS PARTED ===== -/
section SPLIT
variable {d : Nat} {V : xF} {D : yD} {Q : xRes → xF → yD → Prop} {b : Nat → Int} {m : Nat}
theorem yr348 (c : Int) : yr_348 c V D = kof c := by
  unfold yr_348 kof
  (repeat' split) <;> omega
/-- the first k things, up to f -/
def Spl (b : Nat → Int) (m k f : Nat) (K B E : Nat → Int) : Prop := k ≤ f ∧ f ≤ m ∧ (∀ i, i < k → tkP b m (K i) (B i) (E i)) ∧ (∀ i, i < k → 0 ≤ psE E i ∧ psE E i ≤ B i ∧ ∀ j : Nat, psE E i ≤ (j : Int) → (j : Int) < B i → b j = 32) ∧ 0 ≤ psE E k ∧ psE E k ≤ (f : Int) ∧ ∀ j : Nat, psE E k ≤ (j : Int) → j < f → b j = 32
theorem psE_c {E E' : Nat → Int} {k i : Nat} (h : ∀ j, j < k → E' j = E j) (hi : i ≤ k) : psE E' i = psE E i := by
  unfold psE
  by_cases e : i = 0
  · rw [if_pos e, if_pos e]
  · rw [if_neg e, if_neg e, h _ (by omega)]
theorem Spl.put {k f e : Nat} {K B E K' B' E' : Nat → Int} {q : Int} (h : Spl b m k f K B E) (hf : f < e) (he : e ≤ m) (h32 : b f ≠ 32) (hrun : ∀ j, f ≤ j → j < e → kof (b j) = q) (h0 : q = 0 → e = f + 1) (hmax : q ≠ 0 → e < m → kof (b e) ≠ q)
    (hK : ∀ j, j < k → K' j = K j) (hB : ∀ j, j < k → B' j = B j) (hE : ∀ j, j < k → E' j = E j) (kK : K' k = q) (kB : B' k = (f : Int)) (kE : E' k = (e : Int)) : Spl b m (k + 1) e K' B' E' := by
  obtain ⟨s1, s2, s3, s4, s5, s6, s7⟩ := h
  have ek : psE E' (k + 1) = (e : Int) := by unfold psE; rw [if_neg (by omega)]; exact kE
  refine ⟨by omega, he, fun i hi => ?_, fun i hi => ?_, by omega, by omega, fun j h1 h2 => by omega⟩
  · by_cases e2 : i = k
    · subst e2
      rw [kK, kB, kE]
      refine ⟨by omega, by omega, by omega, by rw [nn_toNat]; exact h32, fun j h1 h2 => hrun j (by omega) (by omega), fun h => by have := h0 h; omega, fun h h' => by rw [nn_toNat]; exact hmax h (by omega)⟩
    · rw [hK i (by omega), hB i (by omega), hE i (by omega)]
      exact s3 i (by omega)
  · rw [psE_c hE (by omega)]
    by_cases e2 : i = k
    · subst e2
      rw [kB]
      exact ⟨s5, s6, fun j h1 h2 => s7 j h1 (by omega)⟩
    · rw [hB i (by omega)]
      exact s4 i (by omega)
theorem Spl.skip {k f : Nat} {K B E : Nat → Int} (h : Spl b m k f K B E) (hf : f < m) (h32 : b f = 32) : Spl b m k (f + 1) K B E := by
  obtain ⟨s1, s2, s3, s4, s5, s6, s7⟩ := h
  refine ⟨by omega, by omega, s3, s4, s5, by omega, fun j h1 h2 => ?_⟩
  by_cases e : j = f
  · subst e; exact h32
  · exact s7 j h1 (by omega)
theorem c_split (hm : V 76 1 = (m : Int)) (hm4 : m ≤ 400) (hb : ∀ k, k < 400 → V 77 k = b k) (h : ∀ V' N, CT V' b m N 0 → (∀ j, j ≠ 5 → V' 76 j = V 76 j) → Fr [76, 78, 79, 80] V V' → Q (.inl none) V' D) : RY d 297 0 [vr 76, vr 0, vr 0, vr 0, vr 0] [] V D Q := by
  refine u_297_0 ?_
  have main : ∀ (n f k : Nat) (V1 : xF) (v3 v4 : xV), f + n = m → Fr [78, 79, 80] V V1 → Spl b m k f (V1 78) (V1 79) (V1 80) → RY d 297 4 [vr 76, vi (k : Int), vi (f : Int), v3, v4] [] V1 D Q := by
    intro n
    induction n using Nat.strongRecOn with
    | ind n ih =>
      intro f k V1 v3 v4 hf F S
      have e76 : V1 76 1 = (m : Int) := by rw [F.at_ 76 (by decide)]; exact hm
      have e77 : ∀ k, k < 400 → V1 77 k = b k := fun k hk => by rw [F.at_ 77 (by decide)]; exact hb k hk
      have sk := S.1
      refine u_297_4 ?_
      rw [e76]
      refine ⟨fun h5 => ⟨by omega, ?_⟩, fun h5 => ⟨by omega, ?_⟩⟩
      · rintro V2 rfl
        rw [nn_toNat, up2_na (by decide), e76]
        refine ⟨by omega, ?_⟩
        rintro V3 rfl
        rw [up2_na (by decide), up2_na (by decide), e76]
        refine ⟨by omega, ?_⟩
        rintro V4 rfl V5 rfl
        have fm : f = m := by omega
        subst fm
        obtain ⟨s1, s2, s3, s4, s5, s6, s7⟩ := S
        have r78 : ∀ j, (up2 (up2 (up2 (up2 V1 78 k 3) 79 k (f : Int)) 80 k (f : Int)) 76 5 0) 78 j = if j = k then 3 else V1 78 j := fun j => by rw [up2_na (by decide), up2_na (by decide), up2_na (by decide), up2_a]
        have r79 : ∀ j, (up2 (up2 (up2 (up2 V1 78 k 3) 79 k (f : Int)) 80 k (f : Int)) 76 5 0) 79 j = if j = k then (f : Int) else V1 79 j := fun j => by rw [up2_na (by decide), up2_na (by decide), up2_a, up2_na (by decide)]
        have r80 : ∀ j, (up2 (up2 (up2 (up2 V1 78 k 3) 79 k (f : Int)) 80 k (f : Int)) 76 5 0) 80 j = if j = k then (f : Int) else V1 80 j := fun j => by rw [up2_na (by decide), up2_a, up2_na (by decide), up2_na (by decide)]
        have hE : ∀ j, j < k → (up2 (up2 (up2 (up2 V1 78 k 3) 79 k (f : Int)) 80 k (f : Int)) 76 5 0) 80 j = V1 80 j := fun j hj => by rw [r80, if_neg (by omega)]
        refine h _ k ⟨up2_at _ _ _ _, by omega, hm4, ⟨by omega, by rw [r78, if_pos rfl], by rw [r79, if_pos rfl], by rw [r80, if_pos rfl], fun i hi => ?_, fun i hi => ?_⟩, fun j hj => ?_⟩ (fun j hj => ?_) ((F.sub (by decide)).tr ((((Fr.up (by decide)).tr (Fr.up (by decide))).tr (Fr.up (by decide))).tr (Fr.up (by decide))))
        · rw [r78, r79, r80, if_neg (by omega), if_neg (by omega), if_neg (by omega)]
          exact s3 i hi
        · rw [psE_c hE hi, r79]
          by_cases e : i = k
          · rw [if_pos e, e]
            exact ⟨s5, s6, fun j h1 h2 => s7 j h1 (by omega)⟩
          · rw [if_neg e]
            exact s4 i (by omega)
        · rw [up2_na (by decide), up2_na (by decide), up2_na (by decide), up2_na (by decide)]
          exact e77 j hj
        · rw [up2_ni hj, up2_na (by decide), up2_na (by decide), up2_na (by decide), F.at_ 76 (by decide)]
      · rw [nn_toNat, e77 f (by omega), yr348, wr_id (by omega) (by omega), show (f : Int) + 1 = (((f + 1 : Nat)) : Int) by omega]
        obtain ⟨q, hq⟩ : ∃ q, q = kof (b f) := ⟨_, rfl⟩
        rw [← hq]
        -- a thing is put down, or is a space
        have emit : ∀ (e : Nat), f < e → e ≤ m → (∀ j, f ≤ j → j < e → kof (b j) = q) → (q = 0 → e = f + 1) → (q ≠ 0 → e < m → kof (b e) ≠ q) → (((0 : Int) ≤ (f : Int) ∧ (f : Int) < (400 : Int)) ∧ (((V1 77 ((f : Int)).toNat) = 32 → RY d 297 4 [vr 76, vi (k : Int), vi (e : Int), vi q, vi (e : Int)] [] V1 D Q) ∧ ((V1 77 ((f : Int)).toNat) ≠ 32 → (((0 : Int) ≤ (k : Int) ∧ (k : Int) < (401 : Int)) ∧ (∀ V4 : xF, V4 = up2 V1 78 ((k : Int)).toNat q → (((0 : Int) ≤ (k : Int) ∧ (k : Int) < (401 : Int)) ∧ (∀ V5 : xF, V5 = up2 V4 79 ((k : Int)).toNat (f : Int) → (((0 : Int) ≤ (k : Int) ∧ (k : Int) < (401 : Int)) ∧ (∀ V6 : xF, V6 = up2 V5 80 ((k : Int)).toNat (e : Int) → RY d 297 4 [vr 76, vi (wr ((k : Int) + 1)), vi (e : Int), vi q, vi (e : Int)] [] V6 D Q))))))))) := by
          intro e h1 h2 h3 h4 h6
          rw [nn_toNat, nn_toNat, e77 f (by omega), wr_id (by omega) (by omega), show (k : Int) + 1 = (((k + 1 : Nat)) : Int) by omega]
          refine ⟨by omega, fun h7 => ?_, fun h7 => ⟨by omega, ?_⟩⟩
          · have e1 : e = f + 1 := h4 (by rw [hq, h7]; decide)
            subst e1
            exact ih (n - 1) (by omega) (f + 1) k V1 _ _ (by omega) F (S.skip (by omega) h7)
          · rintro V4 rfl
            refine ⟨by omega, ?_⟩
            rintro V5 rfl
            refine ⟨by omega, ?_⟩
            rintro V6 rfl
            refine ih (m - e) (by omega) e (k + 1) _ _ _ (by omega) (F.tr (((Fr.up (by decide)).tr (Fr.up (by decide))).tr (Fr.up (by decide)))) ?_
            refine S.put h1 h2 h7 h3 h4 h6 (fun j hj => ?_) (fun j hj => ?_) (fun j hj => ?_) ?_ ?_ ?_
            · rw [up2_na (by decide), up2_na (by decide), up2_ni (by omega)]
            · rw [up2_na (by decide), up2_ni (by omega), up2_na (by decide)]
            · rw [up2_ni (by omega), up2_na (by decide), up2_na (by decide)]
            · rw [up2_na (by decide), up2_na (by decide), up2_at]
            · rw [up2_na (by decide), up2_at]
            · rw [up2_at]
        have inner : ∀ (c e : Nat), e + c = m → f < e → (∀ j, f ≤ j → j < e → kof (b j) = q) → (q = 0 → e = f + 1) → RY d 297 27 [vr 76, vi (k : Int), vi (f : Int), vi q, vi (e : Int)] [] V1 D Q := by
          intro c
          induction c with
          | zero =>
            intro e he h1 h2 h3
            refine u_297_27 ?_
            rw [e76]
            refine ⟨fun h6 => emit e h1 (by omega) h2 h3 (fun h7 => absurd h6 h7), fun h6 => ⟨fun _ => emit e h1 (by omega) h2 h3 (fun _ h8 => by omega), fun h7 => by omega⟩⟩
          | succ c ihc =>
            intro e he h1 h2 h3
            refine u_297_27 ?_
            rw [e76]
            refine ⟨fun h6 => emit e h1 (by omega) h2 h3 (fun h7 => absurd h6 h7), fun h6 => ⟨fun h7 => by omega, fun _ => ⟨by omega, ?_⟩⟩⟩
            have ee : V1 77 ((e : Int)).toNat = b e := by rw [nn_toNat]; exact e77 e (by omega)
            rw [ee, yr348, wr_id (x := (e : Int) + 1) (by omega) (by omega), show (e : Int) + 1 = (((e + 1 : Nat)) : Int) by omega]
            refine ⟨fun h7 => emit e h1 (by omega) h2 h3 (fun _ _ => h7), fun h7 => ihc (e + 1) (by omega) (by omega) (fun j h8 h9 => ?_) (fun h8 => absurd h8 h6)⟩
            by_cases e2 : j = e
            · subst e2; exact h7
            · exact h2 j h8 (by omega)
        exact inner (m - (f + 1)) (f + 1) (by omega) (by omega) (fun j h1 h2 => by rw [show j = f by omega, hq]) (fun _ => rfl)
  exact main m 0 0 V _ _ (by omega) Fr.rf ⟨by omega, by omega, fun i hi => by omega, fun i hi => by omega, Int.le_refl _, Int.le_refl _, fun j h1 h2 => by omega⟩
end SPLIT
