/-! ===== LARGEST, ALIKE, SORT, LOG, LED, DOORS THAT ARE OPEN ===== -/
/-- the model's code of an exception: the one told first is E1 -/
def mCd (E1 : Nat) (a : aRes) : Int := match a with
  | .inl _ => 0
  | .inr E => if E = E1 then 1 else 2
noncomputable def aIf (c : Prop) (a b : aRes) : aRes := @ite _ c (Classical.propDecidable _) a b
theorem aIf_y {c : Prop} {a b : aRes} (h : c) : aIf c a b = a := by unfold aIf; rw [if_pos h]
theorem aIf_n {c : Prop} {a b : aRes} (h : ¬ c) : aIf c a b = b := by unfold aIf; rw [if_neg h]
/-- pairs: of each with those ahead of it, of each with those behind it -/
def prI (F : Nat → Nat → Int) (i : Nat) : Nat → Int
  | 0 => 0
  | j + 1 => prI F i j + F j i
def prC (F : Nat → Nat → Int) : Nat → Int
  | 0 => 0
  | n + 1 => prC F n + prI F n n
def prJ (F : Nat → Nat → Int) (i j : Nat) : Nat → Int
  | 0 => 0
  | n + 1 => F i j + prJ F i (j + 1) n
def prM (F : Nat → Nat → Int) (N i : Nat) : Nat → Int
  | 0 => 0
  | n + 1 => prJ F i (i + 1) (N - (i + 1)) + prM F N (i + 1) n
theorem pr_eq (F : Nat → Nat → Int) {n : Nat} (hn : n ≤ 5) : prM F n 0 n = prC F n := by
  have : n = 0 ∨ n = 1 ∨ n = 2 ∨ n = 3 ∨ n = 4 ∨ n = 5 := by omega
  rcases this with h | h | h | h | h | h <;> subst h <;> simp [prM, prC, prI, prJ] <;> omega
section MORE
variable {d : Nat} {V : xF} {D : yD} {Q : xRes → xF → yD → Prop} {p : Rw}
theorem v405 {V : xF} {z : Int} : (up2 V 405 0 z) 405 0 = z ∧ (up2 V 405 0 z) 406 = V 406 ∧ Cor V (up2 V 405 0 z) := ⟨up2_at _ _ _ _, up2_na (by decide), Cor.up405 (by decide) (by decide) (by decide) (by decide)⟩
/-- LARGEST -/
def sizF (p : Rw) (r : Nat) : Int := (rW p r - 1) * (rD p r - 1)
def larF (p : Rw) : Int := (bst (sizF p) (p 3).toNat).1
theorem siz_b (hW : WF p) {r : Nat} (hr : (r : Int) < p 3) : 1 ≤ sizF p r ∧ sizF p r ≤ 121 := by
  obtain ⟨-, hw, hd⟩ := hW.room hr
  unfold sizF
  have h1 : (rW p r - 1) * 1 ≤ (rW p r - 1) * (rD p r - 1) := Int.mul_le_mul_of_nonneg_left (by omega) (by omega)
  have h2 : (rW p r - 1) * (rD p r - 1) ≤ 11 * 11 := Int.mul_le_mul (by omega) (by omega) (by omega) (by omega)
  omega
theorem ca_largest (hS : St V 81 p) (hW : WF p) (h : Q (.inl (some (vi (larF p)))) V D) : RY d 85 0 [vr 70, vr 0, vr 0, vr 0, vr 0] [] V D Q := by
  have h3 : 0 ≤ p 3 ∧ p 3 ≤ 5 := hW.1
  have e0 := hS.rooms
  refine u_85_0 ?_
  have main : ∀ (n k : Nat) (m : Int) (v : xV), (k : Int) + n = p 3 → (m = (bst (sizF p) k).2 ∨ (m = 0 ∧ (bst (sizF p) k).2 = -1)) → RY d 85 6 [vr 70, vi (bst (sizF p) k).1, vi m, vi (k : Int), v] [] V D Q := by
    intro n
    induction n with
    | zero =>
      intro k m v hk hm
      have : (p 3).toNat = k := by omega
      unfold larF at h
      rw [this] at h
      exact u_85_6 ⟨fun _ => h, fun h5 => by omega⟩
    | succ n ih =>
      intro k m v hk hm
      have hr : (k : Int) < p 3 := by omega
      obtain ⟨hr5, hw, hd⟩ := hW.room hr
      have hs := siz_b hW hr
      have e1 : V 82 k = rW p k := hS.2.1 k hr5
      have e2 : V 83 k = rD p k := hS.2.2.1 k hr5
      refine u_85_6 ⟨fun h5 => by omega, fun _ => ⟨by omega, by omega, ?_⟩⟩
      rw [nn_toNat, e1, e2, wr_id (x := rW p k - 1) (by omega) (by omega), wr_id (x := rD p k - 1) (by omega) (by omega), show (rW p k - 1) * (rD p k - 1) = sizF p k from rfl, wr_id (x := sizF p k) (by omega) (by omega), wr_id (by omega) (by omega)]
      have ih' := fun m v => ih (k + 1) m v (by omega)
      unfold bst at ih'
      refine ⟨fun h5 => ?_, fun h5 => ?_⟩
      · rw [if_neg (by omega)] at ih'
        exact ih' _ _ hm
      · rw [if_pos (by omega)] at ih'
        exact ih' _ _ (Or.inl rfl)
  exact main (p 3).toNat 0 0 _ (by omega) (Or.inr ⟨rfl, rfl⟩)
theorem yr215 (hW : WF (V 406)) {r : Nat} (hr : (r : Int) < V 406 3) : yg_215 (r : Int) V D ∧ yr_215 (r : Int) V D = sizF (V 406) r := by
  obtain ⟨hr5, hw, hd⟩ := hW.room hr
  have hs := siz_b hW hr
  unfold yg_215 yr_215
  rw [yr133_0 hr5, yr133_1 hr5, wr_id (x := rW (V 406) r - 1) (by omega) (by omega), wr_id (x := rD (V 406) r - 1) (by omega) (by omega), show (rW (V 406) r - 1) * (rD (V 406) r - 1) = sizF (V 406) r from rfl, wr_id (by omega) (by omega)]
  exact ⟨⟨yg133 hr5 (by omega), yg133 hr5 (by omega)⟩, rfl⟩
theorem ma_largest (hW : WF (V 406)) (h : ∀ V', V' 405 0 = 0 → Cor V V' → Q (.inl (some (vi (larF (V 406))))) V' D) : RY d 86 0 [vr 405, vr 0, vr 0] [] V D Q := by
  refine u_86_0 ?_
  rintro V1 hV1
  have e6 : V1 406 = V 406 := by rw [hV1]; exact v405.2.1
  have hq := h V1 (by rw [hV1]; exact v405.1) (by rw [hV1]; exact v405.2.2)
  clear hV1 h
  rw [← e6] at hq hW
  have h3 : 0 ≤ V1 406 3 ∧ V1 406 3 ≤ 5 := hW.1
  have main : ∀ (n k : Nat), (k : Int) + n = V1 406 3 → ((k = 0 ∧ (bst (sizF (V1 406)) k).1 = -1) ∨ ∃ m : Nat, (bst (sizF (V1 406)) k).1 = (m : Int) ∧ m < k ∧ (bst (sizF (V1 406)) k).2 = sizF (V1 406) m) → RY d 86 9 [vr 405, vi (bst (sizF (V1 406)) k).1, vi (k : Int)] [] V1 D Q := by
    intro n
    induction n with
    | zero =>
      intro k hk hm
      have : (V1 406 3).toNat = k := by omega
      unfold larF at hq
      rw [this] at hq
      exact u_86_9 ⟨fun _ => hq, fun h5 => by omega⟩
    | succ n ih =>
      intro k hk hm
      have hr : (k : Int) < V1 406 3 := by omega
      have hs := siz_b hW hr
      have ih' := ih (k + 1) (by omega)
      have eb : bst (sizF (V1 406)) (k + 1) = if (bst (sizF (V1 406)) k).2 < sizF (V1 406) k then ((k : Int), sizF (V1 406) k) else bst (sizF (V1 406)) k := rfl
      refine u_86_9 ⟨fun h5 => by omega, fun _ => ⟨fun h5 => ?_, fun h5 => ?_⟩⟩
      · rcases hm with ⟨hm1, hm2⟩ | ⟨m, hm1, hm2, hm3⟩
        · subst hm1
          rw [wr_id (by omega) (by omega)]
          have hb : (bst (sizF (V1 406)) 0).2 = -1 := rfl
          rw [if_pos (by omega)] at eb
          rw [eb] at ih'
          exact ih' (Or.inr ⟨0, rfl, by omega, rfl⟩)
        · omega
      · rcases hm with ⟨hm1, hm2⟩ | ⟨m, hm1, hm2, hm3⟩
        · exact absurd hm2 h5
        · rw [hm1]
          have a := yr215 (V := V1) (D := D) hW hr
          have c := yr215 (V := V1) (D := D) hW (show (m : Int) < V1 406 3 by omega)
          rw [a.2, c.2, wr_id (by omega) (by omega)]
          refine ⟨a.1, c.1, fun h6 => ?_, fun h6 => ?_⟩
          · rw [if_neg (by omega)] at eb
            rw [eb, hm1] at ih'
            exact ih' (Or.inr ⟨m, rfl, by omega, hm3⟩)
          · rw [if_pos (by omega)] at eb
            rw [eb] at ih'
            exact ih' (Or.inr ⟨k, rfl, by omega, rfl⟩)
  exact main (V1 406 3).toNat 0 (by omega) (Or.inl ⟨rfl, rfl⟩)
/-- ALIKE -/
def likF (p : Rw) (t u : Nat) : Int := if tP_ p t = tP_ p u ∧ tW_ p t = tW_ p u then 1 else 0
def alikeF (p : Rw) : Int := prC (likF p) (p 4).toNat
theorem likF_s {t u : Nat} : likF p t u = likF p u t := by
  unfold likF
  by_cases h : tP_ p t = tP_ p u ∧ tW_ p t = tW_ p u
  · rw [if_pos h, if_pos ⟨h.1.symm, h.2.symm⟩]
  · rw [if_neg h, if_neg (fun h' => h ⟨h'.1.symm, h'.2.symm⟩)]
theorem lik_b {t u : Nat} : 0 ≤ likF p t u ∧ likF p t u ≤ 1 := by unfold likF; split <;> omega
theorem prI_b {F : Nat → Nat → Int} (hF : ∀ i j, 0 ≤ F i j ∧ F i j ≤ 1) (i : Nat) : ∀ n : Nat, 0 ≤ prI F i n ∧ prI F i n ≤ n
  | 0 => ⟨Int.le_refl _, Int.le_refl _⟩
  | n + 1 => by
    have := prI_b hF i n
    have := hF n i
    unfold prI
    omega
theorem prC_b {F : Nat → Nat → Int} (hF : ∀ i j, 0 ≤ F i j ∧ F i j ≤ 1) : ∀ n : Nat, n ≤ 5 → 0 ≤ prC F n ∧ prC F n ≤ 5 * n
  | 0, _ => ⟨Int.le_refl _, Int.le_refl _⟩
  | n + 1, h => by
    have := prC_b hF n (by omega)
    have := prI_b hF n n
    unfold prC
    omega
theorem ca_alike (hS : St V 81 p) (hW : WF p) (h : Q (.inl (some (vi (alikeF p)))) V D) : RY d 87 0 [vr 70, vr 0, vr 0, vr 0] [] V D Q := by
  have h4 : 0 ≤ p 4 ∧ p 4 ≤ 5 := hW.2.1
  have e6 := hS.tens
  have eP : ∀ t, t < 5 → V 87 t = tP_ p t := fun t ht => hS.2.2.2.2.2.2.2.1 t ht
  have eW : ∀ t, t < 5 → V 88 t = tW_ p t := fun t ht => hS.2.2.2.2.2.2.2.2.1 t ht
  refine u_87_0 ?_
  have inner : ∀ (n j i : Nat), j + n = i → (i : Int) < p 4 → (∀ v, RY d 87 4 [vr 70, vi (prC (likF p) (i + 1)), vi (((i + 1 : Nat)) : Int), v] [] V D Q) → RY d 87 17 [vr 70, vi (prC (likF p) i + prI (likF p) i j), vi (i : Int), vi (j : Int)] [] V D Q := by
    intro n
    induction n with
    | zero =>
      intro j i hj hi hx
      have : j = i := by omega
      subst this
      refine u_87_17 ⟨fun _ => ?_, fun h5 => by omega⟩
      rw [wr_id (by omega) (by omega)]
      exact hx _
    | succ n ih =>
      intro j i hj hi hx
      have b1 := prC_b (F := likF p) (fun i j => lik_b) i (by omega)
      have b2 := prI_b (F := likF p) (fun i j => lik_b) i j
      have := ih (j + 1) i (by omega) hi hx
      have e : prI (likF p) i (j + 1) = prI (likF p) i j + likF p j i := rfl
      rw [e] at this
      refine u_87_17 ⟨fun h5 => by omega, fun _ => ⟨by omega, by omega, ?_⟩⟩
      rw [nn_toNat, nn_toNat, eP i (by omega), eP j (by omega), eW i (by omega), eW j (by omega), wr_id (x := (j : Int) + 1) (by omega) (by omega), wr_id (by omega) (by omega)]
      refine ⟨fun h5 => ?_, fun h5 => ⟨by omega, by omega, fun h6 => ?_, fun h6 => ?_⟩⟩
      · rw [show likF p j i = 0 by unfold likF; rw [if_neg (fun hh => h5 hh.1.symm)], Int.add_zero] at this
        exact this
      · rw [show likF p j i = 0 by unfold likF; rw [if_neg (fun hh => h6 hh.2.symm)], Int.add_zero] at this
        exact this
      · rw [show likF p j i = 1 by unfold likF; rw [if_pos ⟨h5.symm, h6.symm⟩], ← Int.add_assoc] at this
        exact this
  have outer : ∀ (n i : Nat) (v : xV), (i : Int) + n = p 4 → RY d 87 4 [vr 70, vi (prC (likF p) i), vi (i : Int), v] [] V D Q := by
    intro n
    induction n with
    | zero =>
      intro i v hi
      have : (p 4).toNat = i := by omega
      unfold alikeF at h
      rw [this] at h
      exact u_87_4 ⟨fun _ => h, fun h5 => by omega⟩
    | succ n ih =>
      intro i v hi
      refine u_87_4 ⟨fun h5 => by omega, fun _ => ?_⟩
      have := inner i 0 i (by omega) (by omega) (fun v => ih (i + 1) v (by omega))
      rw [show prI (likF p) i 0 = 0 from rfl, Int.add_zero] at this
      exact this
  exact outer (p 4).toNat 0 _ (by omega)
theorem ma_alike (hW : WF (V 406)) (h : ∀ V', V' 405 0 = 0 → Cor V V' → Q (.inl (some (vi (alikeF (V 406))))) V' D) : RY d 88 0 [vr 405, vr 0, vr 0, vr 0] [] V D Q := by
  refine u_88_0 ?_
  rintro V1 hV1
  have e6 : V1 406 = V 406 := by rw [hV1]; exact v405.2.1
  have hq := h V1 (by rw [hV1]; exact v405.1) (by rw [hV1]; exact v405.2.2)
  clear hV1 h
  rw [← e6] at hq hW
  have h4 : 0 ≤ V1 406 4 ∧ V1 406 4 ≤ 5 := hW.2.1
  obtain ⟨N, hN⟩ : ∃ N : Nat, V1 406 4 = (N : Int) := ⟨(V1 406 4).toNat, by omega⟩
  unfold alikeF at hq
  rw [hN, nn_toNat, ← pr_eq (likF (V1 406)) (by omega)] at hq
  have inner : ∀ (n j i : Nat) (a : Int), j + n = N → i < N → 0 ≤ a ∧ a ≤ 1000 - n → (∀ v, RY d 88 9 [vr 405, vi (a + prJ (likF (V1 406)) i j n), vi (((i + 1 : Nat)) : Int), v] [] V1 D Q) → RY d 88 23 [vr 405, vi a, vi (i : Int), vi (j : Int)] [] V1 D Q := by
    intro n
    induction n with
    | zero =>
      intro j i a hj hi ha hx
      refine u_88_23 ⟨fun _ => ?_, fun h5 => by omega⟩
      rw [wr_id (by omega) (by omega)]
      have := hx (vi (j : Int))
      rw [show prJ (likF (V1 406)) i j 0 = 0 from rfl, Int.add_zero] at this
      exact this
    | succ n ih =>
      intro j i a hj hi ha hx
      have hb := lik_b (p := V1 406) (t := i) (u := j)
      have e : prJ (likF (V1 406)) i j (n + 1) = likF (V1 406) i j + prJ (likF (V1 406)) i (j + 1) n := rfl
      have := ih (j + 1) i (a + likF (V1 406) i j) (by omega) hi (by omega) (fun v => by rw [e, ← Int.add_assoc] at hx; exact hx v)
      refine u_88_23 ⟨fun h5 => by omega, fun _ => ⟨yg143 (by omega) (by omega), yg143 (by omega) (by omega), ?_⟩⟩
      rw [yr143_0 (by omega), yr143_0 (by omega), yr143_1 (by omega), yr143_1 (by omega), wr_id (x := (j : Int) + 1) (by omega) (by omega), wr_id (x := a + 0) (by omega) (by omega), wr_id (x := a + 1) (by omega) (by omega)]
      refine ⟨fun h5 => ?_, fun h5 => ⟨yg143 (by omega) (by omega), yg143 (by omega) (by omega), fun h6 => ?_, fun h6 => ?_⟩⟩
      · rw [show likF (V1 406) i j = 0 by unfold likF; rw [if_neg (fun hh => h5 hh.1)]] at this
        exact this
      · rw [show likF (V1 406) i j = 0 by unfold likF; rw [if_neg (fun hh => h6 hh.2)]] at this
        exact this
      · rw [show likF (V1 406) i j = 1 by unfold likF; rw [if_pos ⟨h5, h6⟩]] at this
        exact this
  have prJ_b : ∀ (n i j : Nat), 0 ≤ prJ (likF (V1 406)) i j n ∧ prJ (likF (V1 406)) i j n ≤ n := by
    intro n
    induction n with
    | zero => intro i j; exact ⟨Int.le_refl _, Int.le_refl _⟩
    | succ n ih =>
      intro i j
      have := ih i (j + 1)
      have := lik_b (p := V1 406) (t := i) (u := j)
      unfold prJ
      omega
  have outer : ∀ (n i : Nat) (a : Int) (v : xV), i + n = N → 0 ≤ a ∧ a ≤ 10 * (i : Int) → a + prM (likF (V1 406)) N i n = prM (likF (V1 406)) N 0 N → RY d 88 9 [vr 405, vi a, vi (i : Int), v] [] V1 D Q := by
    intro n
    induction n with
    | zero =>
      intro i a v hi ha he
      have e0 : prM (likF (V1 406)) N i 0 = 0 := rfl
      rw [← he, e0, Int.add_zero] at hq
      exact u_88_9 ⟨fun _ => hq, fun h5 => by omega⟩
    | succ n ih =>
      intro i a v hi ha he
      have e1 : prM (likF (V1 406)) N i (n + 1) = prJ (likF (V1 406)) i (i + 1) (N - (i + 1)) + prM (likF (V1 406)) N (i + 1) n := rfl
      have hb := prJ_b (N - (i + 1)) i (i + 1)
      refine u_88_9 ⟨fun h5 => by omega, fun _ => ?_⟩
      rw [wr_id (by omega) (by omega)]
      have := inner (N - (i + 1)) (i + 1) i a (by omega) (by omega) (by omega) (fun v => ih (i + 1) _ v (by omega) (by omega) (by rw [← he, e1]; omega))
      exact this
  exact outer N 0 0 _ (by omega) (by omega) (by omega)
/-- SORT -/
noncomputable def aSort (p : Rw) (s : Int) : aRes := aIf (0 ≤ s ∧ s ≤ 4) (.inl (cntB (fun k => decide (rS p (k / 4) (k % 4) = s)) (4 * (p 3).toNat))) (.inr 2)
theorem ca_sort {s : Int} (hS : St V 81 p) (hW : WF p) (h : ∀ D', CorD D D' → Q (cRes (aSort p s)) V D') : RY d 216 0 [vr 70, vi s, vr 0, vr 0] [] V D Q := by
  have h3 : 0 ≤ p 3 ∧ p 3 ≤ 5 := hW.1
  have e0 := hS.rooms
  unfold aSort at h
  have no : ¬ (0 ≤ s ∧ s ≤ 4) → Q (.inr 2) V (excD D) := fun hn => by rw [aIf_n hn] at h; exact h _ CorD.exc
  refine u_216_0 ⟨fun h5 => no (by omega), fun h5 => ⟨fun h6 => ?_, fun h6 => no (by omega)⟩⟩
  rw [aIf_y ⟨h5, by omega⟩] at h
  have hq := h D CorD.rf
  have main : ∀ (n k : Nat), (k : Int) + n = 4 * p 3 → RY d 216 21 [vr 70, vi s, vi (cntB (fun k => decide (rS p (k / 4) (k % 4) = s)) k), vi (k : Int)] [] V D Q := by
    intro n
    induction n with
    | zero =>
      intro k hk
      have : 4 * (p 3).toNat = k := by omega
      rw [this] at hq
      refine u_216_21 ⟨fun _ => hq, fun h5 => ?_⟩
      rw [e0, wr_id (by omega) (by omega)] at h5
      omega
    | succ n ih =>
      intro k hk
      have hc := cntB_b (fun k => decide (rS p (k / 4) (k % 4) = s)) k
      have e1 : V 84 k = rS p (k / 4) (k % 4) := by
        have := hS.2.2.2.1 (k / 4) (k % 4) (by omega) (by omega)
        rwa [show 4 * (k / 4) + k % 4 = k by omega] at this
      have := ih (k + 1) (by omega)
      unfold cntB at this
      refine u_216_21 ⟨fun h5 => ?_, fun _ => ⟨by omega, ?_⟩⟩
      · rw [e0, wr_id (by omega) (by omega)] at h5
        omega
      · rw [nn_toNat, e1, wr_id (x := (k : Int) + 1) (by omega) (by omega), wr_id (by omega) (by omega)]
        refine ⟨fun h5 => ?_, fun h5 => ?_⟩
        · rw [if_neg (by simpa using h5), Int.add_zero] at this
          exact this
        · rw [if_pos (by simpa using h5)] at this
          exact this
  exact main (4 * (p 3).toNat) 0 (by omega)
theorem ma_sort {s : Int} (hW : WF (V 406)) (h : ∀ V', V' 405 0 = mCd 2 (aSort (V 406) s) → Cor V V' → Q (.inl (some (vi (mVal (aSort (V 406) s))))) V' D) : RY d 90 0 [vr 405, vi s, vr 0, vr 0, vr 0] [] V D Q := by
  unfold aSort at h
  refine u_90_0 ?_
  rw [yr124]
  by_cases hc : 0 ≤ s ∧ s ≤ 4
  · rw [if_pos hc]
    rw [aIf_y hc] at h
    refine ⟨fun _ => ?_, fun h5 => absurd h5 (by decide)⟩
    rintro V1 hV1
    have e6 : V1 406 = V 406 := by rw [hV1]; exact v405.2.1
    have t0 : V1 405 0 = 0 := by rw [hV1]; exact v405.1
    have hq := h V1 t0 (by rw [hV1]; exact v405.2.2)
    clear hV1 h
    rw [← e6] at hq hW
    have h3 : 0 ≤ V1 406 3 ∧ V1 406 3 ≤ 5 := hW.1
    refine ⟨fun _ => ?_, fun h5 => by omega⟩
    obtain ⟨g, hg⟩ : ∃ g, g = fun k => decide (rS (V1 406) (k / 4) (k % 4) = s) := ⟨_, rfl⟩
    rw [← hg] at hq
    have inner : ∀ (n w r : Nat), w + n = 4 → (r : Int) < V1 406 3 → (∀ v, RY d 90 31 [vr 405, vi s, vi (cntB g (4 * (r + 1))), vi (((r + 1 : Nat)) : Int), v] [] V1 D Q) → RY d 90 44 [vr 405, vi s, vi (cntB g (4 * r + w)), vi (r : Int), vi (w : Int)] [] V1 D Q := by
      intro n
      induction n with
      | zero =>
        intro w r hw hr hx
        have : w = 4 := by omega
        subst this
        refine u_90_44 ⟨fun _ => ?_, fun h5 => by omega⟩
        rw [wr_id (by omega) (by omega)]
        exact hx _
      | succ n ih =>
        intro w r hw hr hx
        have hc := cntB_b g (4 * r + w)
        have hr5 : r < 5 := by omega
        have := ih (w + 1) r (by omega) hr hx
        rw [show 4 * r + (w + 1) = (4 * r + w) + 1 by omega] at this
        unfold cntB at this
        have ew : wr (2 + (w : Int)) = (((2 + w : Nat)) : Int) := by rw [wr_id (by omega) (by omega)]; omega
        refine u_90_44 ⟨fun h5 => by omega, fun _ => ?_⟩
        rw [ew, yr133_w hr5 (by omega), wr_id (x := (w : Int) + 1) (by omega) (by omega), wr_id (x := cntB g (4 * r + w) + 0) (by omega) (by omega), wr_id (x := cntB g (4 * r + w) + 1) (by omega) (by omega)]
        clear ew
        have eg : g (4 * r + w) = decide (rS (V1 406) r w = s) := by
          rw [hg]
          dsimp only
          rw [show (4 * r + w) / 4 = r by omega, show (4 * r + w) % 4 = w by omega]
        rw [eg] at this
        refine ⟨yg133 hr5 (by omega), fun h5 => ?_, fun h5 => ?_⟩
        · rw [if_neg (by simpa using h5)] at this
          exact this
        · rw [if_pos (by simpa using h5)] at this
          exact this
    have outer : ∀ (n r : Nat) (v : xV), (r : Int) + n = V1 406 3 → RY d 90 31 [vr 405, vi s, vi (cntB g (4 * r)), vi (r : Int), v] [] V1 D Q := by
      intro n
      induction n with
      | zero =>
        intro r v hr
        have : (V1 406 3).toNat = r := by omega
        rw [this] at hq
        exact u_90_31 ⟨fun _ => hq, fun h5 => by omega⟩
      | succ n ih =>
        intro r v hr
        refine u_90_31 ⟨fun h5 => by omega, fun _ => ?_⟩
        exact inner 4 0 r (by omega) (by omega) (fun v => ih (r + 1) v (by omega))
    exact outer (V1 406 3).toNat 0 _ (by omega)
  · rw [if_neg hc]
    rw [aIf_n hc] at h
    refine ⟨fun h5 => absurd rfl h5, fun _ => ?_⟩
    rintro V1 hV1
    have t0 : V1 405 0 = 1 := by rw [hV1]; exact v405.1
    refine ⟨fun h5 => by omega, fun _ => h V1 t0 (by rw [hV1]; exact v405.2.2)⟩
end MORE
