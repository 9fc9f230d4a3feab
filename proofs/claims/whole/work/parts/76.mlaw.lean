/-! ===== THE MODEL READS THE LAW ===== -/
theorem pG_0 {T : TK} {n dp i : Nat} : pG T (n + 1) 0 dp i = pif (kW T i (wdS 43)) (pif (dp = 6) (i, none) (bN (pG T n 0 (dp + 1) (i + 1)) (fun j l => (j, some (l ++ [-6])))))
      (pif (kS T i 40) (pif (dp = 6) (i, none) (bN (pG T n 3 (dp + 1) (i + 1)) (fun j l => pif (kS T j 41) (j + 1, some l) (j, none))))
      (pif (kW T i (wdS 44)) (i + 1, some [-4]) (pif (kW T i (wdS 45)) (i + 1, some [-5])
      (bN (pSum T n i) (fun j l => pif (kS T j 60) (bN (pSum T n (j + 1)) (fun j' l' => (j', some (l ++ (-1 :: l') ++ [-2])))) (pif (kS T j 62) (bN (pSum T n (j + 1)) (fun j' l' => (j', some (l ++ (-1 :: l') ++ [-3])))) (j, none))))))) := rfl
theorem pG_2 {T : TK} {n dp i : Nat} : pG T (n + 1) 2 dp i = pif (kW T i (wdS 54)) (bN (pG T n 0 dp (i + 1)) (fun j l => bN (pG T n 2 dp j) (fun j' l' => (j', some (l ++ [-7] ++ l'))))) (i, some []) := rfl
theorem pG_4 {T : TK} {n dp i : Nat} : pG T (n + 1) 4 dp i = pif (kW T i (wdS 55)) (bN (pG T n 1 dp (i + 1)) (fun j l => bN (pG T n 4 dp j) (fun j' l' => (j', some (l ++ [-8] ++ l'))))) (i, some []) := rfl
section MLAW
variable {V : xF} {D : yD} {T : TK} {m N : Nat}
def Fk (V : xF) : Prop := ∀ k, k < 8 → r32 (V 411 k)
abbrev fcV (V : xF) : Nat → Int := fun k => V 411 k
abbrev stV (V : xF) : Bool := decide (V 405 15 = 1)
abbrev opV (V : xF) : Bool := decide (V 405 16 = 1)
/-- where one is ahead of a thing -/
def Ah (T : TK) (i : Nat) (a : Int) : Prop := psE T.2.2.2 i ≤ a ∧ a ≤ T.2.2.1 i
theorem Ah.beg (hT : okT T m N) {i : Nat} (hi : i ≤ N) : Ah T i (T.2.2.1 i) := ⟨(hT.gap hi).2.1, Int.le_refl _⟩
theorem Ah.nxt (hT : okT T m N) {i : Nat} (hi : i < N) : Ah T (i + 1) (T.2.2.2 i) := by
  have hg := hT.gap (show i + 1 ≤ N by omega)
  have e : psE T.2.2.2 (i + 1) = T.2.2.2 i := by unfold psE; rw [if_neg (by omega)]; rfl
  unfold Ah
  rw [e] at hg ⊢
  exact ⟨Int.le_refl _, hg.2.1⟩
theorem Ah.sgn (hT : okT T m N) (hm : m ≤ 400) {i : Nat} {c : Int} (hi : i ≤ N) (h : kS T i c) : Ah T (i + 1) (wr (T.2.2.1 i + 1)) ∧ i < N := by
  have hlt := kS_lt hT hi h
  have t := hT.tk hlt
  have e := t.2.2.2.2.2.1 h.1
  have hb := hT.bnd hi
  refine ⟨?_, hlt⟩
  have hx := Ah.nxt hT hlt
  rw [e] at hx
  rw [wr_id (by omega) (by omega)]
  exact hx
/-- the state of reading the law stands -/
def LR (V : xF) (T : TK) (m N : Nat) : Prop := okT T m N ∧ MT V T.1 m ∧ Ws V ∧ Bv V
theorem LR.has (h : LR V T m N) {d : Nat} {i w : Nat} {a f dp : Int} {Q : xRes → xF → yD → Prop} (hw1 : 3 ≤ w) (hw2 : w < 70) (hi : i ≤ N) (ha : Ah T i a)
    (h1 : i < N → kW T i (wdS w) → Q (.inl (some (vi 1))) (mst V (T.2.2.2 i) f dp) D) (h0 : ¬ kW T i (wdS w) → Q (.inl (some (vi 0))) (mst V (T.2.2.1 i) f dp) D) : RY d 302 0 [vr 405, vr w, vr 0, vr 0] [] (mst V a f dp) D Q :=
  m_has h.1 h.2.1 hw1 hw2 (h.2.2.1 w hw1 hw2) hi ha (fun ht => h1 (kW_lt h.1 hi ht) ht) h0
theorem LR.sgn (h : LR V T m N) {d : Nat} {i : Nat} {a f dp c : Int} {Q : xRes → xF → yD → Prop} (hc : kof c = 0) (hi : i ≤ N) (ha : Ah T i a)
    (h1 : i < N → kS T i c → Q (.inl (some (vi 1))) (mst V (T.2.2.1 i) f dp) D) (h0 : ¬ kS T i c → Q (.inl (some (vi 0))) (mst V (T.2.2.1 i) f dp) D) : RY d 232 0 [vr 405, vi c] [] (mst V a f dp) D Q :=
  m_sign h.1 h.2.1 hi ha hc (fun ht => h1 (kS_lt h.1 hi ht) ht) h0
theorem LR.nn (h : LR V T m N) {i : Nat} (hi : i ≤ N) : T.2.2.1 i ≠ -1 := by have := h.1.bnd hi; omega
def pVal (V : xF) (c v : Int) : Prop := v = if c < 1000 then c else V 411 (c - 1000).toNat
def pOk (o : Option Int) (S : Int → Prop) (F : Prop) : Prop := match o with
  | some c => S c
  | none => F
theorem m_part (hR : LR V T m N) {d : Nat} {i : Nat} {a dp : Int} {Q : xRes → xF → yD → Prop} (hi : i ≤ N) (ha : Ah T i a)
    (h : pOk (pPart T i) (fun c => ∀ v a', i < N → (0 ≤ c ∧ c < 1008) → pVal V c v → Ah T (i + 1) a' → Q (.inl (some (vi v))) (mst V a' (-1) dp) D) (∀ v a', 0 ≤ a' → a' ≤ 500 → Q (.inl (some (vi v))) (mst V a' (T.2.2.1 i) dp) D)) : RY d 380 0 [vr 405, vr 0] [] (mst V a (-1) dp) D Q := by
  obtain ⟨hT, hM, hV, hB⟩ := id hR
  have hb := hT.bnd hi
  refine u_380_0 ?_
  rw [mst_12]
  refine ⟨fun _ => m_skip hT hM hi ha (u_380_14 ?_), fun h5 => absurd rfl h5⟩
  -- no number
  have words : (¬ ∃ v, kN T i 0 999 v) → RY d 302 0 [vr 405, vr 46, vr 0, vr 0] [] (mst V (T.2.2.1 i) (-1) dp) D (yback d 380 58 [vr 405, vr 0] [] Q) := by
    intro hno
    unfold pPart at h
    rw [if_neg hno] at h
    have yes : ∀ k : Nat, k < 8 → i < N → (∀ v a', i < N → (0 ≤ (1000 + (k : Int)) ∧ (1000 + (k : Int)) < 1008) → pVal V (1000 + (k : Int)) v → Ah T (i + 1) a' → Q (.inl (some (vi v))) (mst V a' (-1) dp) D) → Q (.inl (some (vi ((mst V (T.2.2.2 i) (-1) dp) 411 k)))) (mst V (T.2.2.2 i) (-1) dp) D := by
      intro k hk hlt hh
      refine hh _ _ hlt (by omega) ?_ (Ah.nxt hT hlt)
      unfold pVal
      rw [if_neg (by omega), mst_n (by decide), show (1000 + (k : Int) - 1000).toNat = k by omega]
    have nb : ∀ {i_0 : Int}, i_0 = 0 → ¬ i_0 ≠ 0 := fun e h => h e
    refine hR.has (by omega) (by omega) hi (Ah.beg hT hi) (fun hlt ht => u_380_58 ⟨fun h5 => absurd h5 (by decide), fun _ => ?_⟩) (fun h0 => u_380_58 ⟨fun _ => ?_, fun h5 => absurd rfl h5⟩)
    · rw [if_pos (show kW T i (nmW 0) from ht)] at h; exact yes 0 (by omega) hlt h
    rw [if_neg (show ¬ kW T i (nmW 0) from h0)] at h
    refine hR.has (by omega) (by omega) hi (Ah.beg hT hi) (fun hlt ht => u_380_71 ⟨fun h5 => absurd h5 (by decide), fun _ => ?_⟩) (fun h1 => u_380_71 ⟨fun _ => ?_, fun h5 => absurd rfl h5⟩)
    · rw [if_pos (show kW T i (nmW 1) from ht)] at h; exact yes 1 (by omega) hlt h
    rw [if_neg (show ¬ kW T i (nmW 1) from h1)] at h
    refine hR.has (by omega) (by omega) hi (Ah.beg hT hi) (fun hlt ht => u_380_84 ⟨fun h5 => absurd h5 (by decide), fun _ => ?_⟩) (fun h2 => u_380_84 ⟨fun _ => ?_, fun h5 => absurd rfl h5⟩)
    · rw [if_pos (show kW T i (nmW 2) from ht)] at h; exact yes 2 (by omega) hlt h
    rw [if_neg (show ¬ kW T i (nmW 2) from h2)] at h
    refine hR.has (by omega) (by omega) hi (Ah.beg hT hi) (fun hlt ht => u_380_97 ⟨fun h5 => absurd h5 (by decide), fun _ => ?_⟩) (fun h3 => u_380_97 ⟨fun _ => ?_, fun h5 => absurd rfl h5⟩)
    · rw [if_pos (show kW T i (nmW 3) from ht)] at h; exact yes 3 (by omega) hlt h
    rw [if_neg (show ¬ kW T i (nmW 3) from h3)] at h
    refine hR.has (by omega) (by omega) hi (Ah.beg hT hi) (fun hlt ht => u_380_110 ⟨fun h5 => absurd h5 (by decide), fun _ => ?_⟩) (fun h4 => u_380_110 ⟨fun _ => ?_, fun h5 => absurd rfl h5⟩)
    · rw [if_pos (show kW T i (nmW 4) from ht)] at h; exact yes 4 (by omega) hlt h
    rw [if_neg (show ¬ kW T i (nmW 4) from h4)] at h
    refine hR.has (by omega) (by omega) hi (Ah.beg hT hi) (fun hlt ht => u_380_123 ⟨fun h5 => absurd h5 (by decide), fun _ => ?_⟩) (fun h5 => u_380_123 ⟨fun _ => ?_, fun h5 => absurd rfl h5⟩)
    · rw [if_pos (show kW T i (nmW 5) from ht)] at h; exact yes 5 (by omega) hlt h
    rw [if_neg (show ¬ kW T i (nmW 5) from h5)] at h
    refine hR.has (by omega) (by omega) hi (Ah.beg hT hi) (fun hlt ht => u_380_136 ⟨fun h5 => absurd h5 (by decide), fun _ => ?_⟩) (fun h6 => u_380_136 ⟨fun _ => ?_, fun h5 => absurd rfl h5⟩)
    · rw [if_pos (show kW T i (nmW 6) from ht)] at h; exact yes 6 (by omega) hlt h
    rw [if_neg (show ¬ kW T i (nmW 6) from h6)] at h
    refine hR.has (by omega) (by omega) hi (Ah.beg hT hi) (fun hlt ht => u_380_150 ⟨fun h5 => absurd h5 (by decide), fun _ => ?_⟩) (fun h7 => u_380_150 ⟨fun _ => ?_, fun h5 => absurd rfl h5⟩)
    · rw [if_pos (show kW T i (nmW 7) from ht)] at h; exact yes 7 (by omega) hlt h
    rw [if_neg (show ¬ kW T i (nmW 7) from h7)] at h
    rw [mst_12, mst_11]
    refine ⟨fun h5 => absurd rfl h5, fun _ => ?_⟩
    rintro V1 rfl
    rw [mst_w12]
    exact h 0 _ (by have := hM.2.1; omega) (by have := hM.2.1; omega)
  rw [mst_11, mst_k (by decide) (by decide) (by decide), hM.1]
  refine ⟨fun h5 => words (fun ⟨v, hv⟩ => ?_), fun h5 => ?_⟩
  · have := kN_lt hT hi hv
    have := hb.2.2.2 this
    omega
  · have y := mt301 (a := T.2.2.1 i) (f := -1) (dp := dp) (D := D) (k := (T.2.2.1 i).toNat) hM (by omega)
    rw [show (((T.2.2.1 i).toNat : Nat) : Int) = T.2.2.1 i by omega] at y
    refine ⟨y.1, ?_⟩
    rw [y.2, yr124]
    have hlt : i < N := by
      apply Classical.byContradiction
      intro hc
      have : i = N := by omega
      subst this
      have := hT.2.2.1
      omega
    by_cases hd : 48 ≤ T.1 (T.2.2.1 i).toNat ∧ T.1 (T.2.2.1 i).toNat ≤ 57
    · rw [if_pos hd]
      have hK : T.2.1 i = 2 := by rw [(hT.kind hlt).1]; exact kof_d.mpr hd
      refine ⟨fun h6 => absurd h6 (by decide), fun _ => m_fig hT hM hi (Ah.beg hT hi) (fun v hv => u_380_51 ?_) (fun hno v a' ha1 ha2 => u_380_51 ?_)⟩
      · have hx : ∃ v, kN T i 0 999 v := ⟨v, hv⟩
        unfold pPart at h
        rw [if_pos hx] at h
        have ev : Classical.epsilon (kN T i 0 999) = v := tN_uni (Classical.epsilon_spec hx) hv
        rw [ev] at h
        refine h v _ hlt (by have := hv.2.2.2.1; have := hv.2.2.2.2; omega) ?_ (Ah.nxt hT hlt)
        unfold pVal
        rw [if_pos (by have := hv.2.2.2.2; omega)]
      · have hnw : ∀ s, ¬ kW T i s := fun s hs => by have := hs.1; rw [hK] at this; omega
        unfold pPart at h
        rw [if_neg (fun ⟨v, hv⟩ => hno v hv), if_neg (hnw _), if_neg (hnw _), if_neg (hnw _), if_neg (hnw _), if_neg (hnw _), if_neg (hnw _), if_neg (hnw _), if_neg (hnw _)] at h
        exact h v a' ha1 ha2
    · rw [if_neg hd]
      refine ⟨fun _ => words (fun ⟨v, hv⟩ => ?_), fun h6 => absurd rfl h6⟩
      have := (hT.kind hlt).1
      rw [hv.1] at this
      exact hd (kof_d.mp this.symm)
theorem evC_part {F : Nat → Int} {st op : Bool} {c : Int} {s : List Bool} {u lf : Int} (hc : 0 ≤ c) : evC F st op c (s, u, lf) = (s, wr (u + (if c < 1000 then c else F (c - 1000).toNat)), lf) := by
  unfold evC
  rw [if_neg (by omega), if_neg (by omega), if_neg (by omega), if_neg (by omega), if_neg (by omega), if_neg (by omega), if_neg (by omega), if_neg (by omega)]
theorem m_sum (hR : LR V T m N) (hm : m ≤ 400) {dp : Int} : ∀ (n i : Nat) (d : Nat) (a : Int) (Q : xRes → xF → yD → Prop), i ≤ N → N < n + i → Ah T i a → rOk (pSum T n i) (fun j l => ∀ v a', (Fk V → SV (fcV V) (stV V) (opV V) l v) → Ah T j a' → Q (.inl (some (vi v))) (mst V a' (-1) dp) D) (fun e => ∀ v a', 0 ≤ a' → a' ≤ 500 → Q (.inl (some (vi v))) (mst V a' (T.2.2.1 e) dp) D) → RY d 378 0 [vr 405, vr 0] [] (mst V a (-1) dp) D Q := by
  obtain ⟨hT, hM, hV, hB⟩ := id hR
  -- behind a part
  have rest : ∀ (n j : Nat) (d : Nat) (a u : Int) (l0 : List Int) (Q : xRes → xF → yD → Prop), j ≤ N → N < n + j + 1 → Ah T j a → (Fk V → SV (fcV V) (stV V) (opV V) l0 u) → rOk (pif (kS T j 43) (bN (pSum T n (j + 1)) (fun j' l => (j', some (l0 ++ l)))) (j, some l0)) (fun j l => ∀ v a', (Fk V → SV (fcV V) (stV V) (opV V) l v) → Ah T j a' → Q (.inl (some (vi v))) (mst V a' (-1) dp) D) (fun e => ∀ v a', 0 ≤ a' → a' ≤ 500 → Q (.inl (some (vi v))) (mst V a' (T.2.2.1 e) dp) D) → RY d 378 5 [vr 405, vi u] [] (mst V a (-1) dp) D Q := by
    intro n
    induction n with
    | zero =>
      intro j d a u l0 Q hj hn ha hu h
      refine u_378_5 ?_
      rw [mst_12]
      refine ⟨fun h5 => absurd rfl h5, fun _ => hR.sgn (by decide) hj ha (fun hlt ht => by omega) (fun ht => u_378_19 ⟨fun _ => ?_, fun h5 => absurd rfl h5⟩)⟩
      rw [pif_n ht] at h
      exact h u _ hu (Ah.beg hT hj)
    | succ n ih =>
      intro j d a u l0 Q hj hn ha hu h
      refine u_378_5 ?_
      rw [mst_12]
      refine ⟨fun h5 => absurd rfl h5, fun _ => hR.sgn (by decide) hj ha (fun hlt ht => u_378_19 ⟨fun h5 => absurd h5 (by decide), fun _ => ?_⟩) (fun ht => u_378_19 ⟨fun _ => ?_, fun h5 => absurd rfl h5⟩)⟩
      · rw [pif_y ht, rOk_bN] at h
        rintro V1 rfl
        rw [mst_w11, mst_11]
        have hs := Ah.sgn hT hm hj ht
        refine m_part hR (by omega) hs.1 ?_
        unfold pSum at h
        cases hp : pPart T (j + 1) with
        | none =>
          rw [hp] at h
          intro v a' ha1 ha2
          refine u_378_37 (u_378_5 ?_)
          rw [mst_12]
          exact ⟨fun _ => h _ _ ha1 ha2, fun h5 => absurd h5 (hR.nn (by omega))⟩
        | some c =>
          rw [hp] at h
          intro v a' hlt2 hc hv ha'
          refine u_378_37 ?_
          refine ih (j + 2) d a' (wr (u + v)) (l0 ++ [c]) Q (by omega) (by omega) ha' (fun hF s lf => ?_) ?_
          · rw [evL_app, hu hF s lf]
            show evC _ _ _ c (s, u, lf) = _
            rw [evC_part hc.1, hv]
          · dsimp only at h
            by_cases hs2 : kS T (j + 2) 43
            · rw [pif_y hs2, rOk_bN]
              rw [show j + 1 + 1 = j + 2 by omega, pif_y hs2, rOk_bN] at h
              refine rOk_mono (fun j' l _ hh => ?_) (fun e _ hh => hh) h
              rw [List.append_assoc]
              exact hh
            · rw [pif_n hs2]
              rw [show j + 1 + 1 = j + 2 by omega, pif_n hs2] at h
              exact h
      · rw [pif_n ht] at h
        exact h u _ hu (Ah.beg hT hj)
  intro n i d a Q hi hn ha h
  cases n with
  | zero => omega
  | succ n =>
    unfold pSum at h
    refine u_378_0 (m_part hR hi ha ?_)
    cases hp : pPart T i with
    | none =>
      rw [hp] at h
      intro v a' ha1 ha2
      refine u_378_4 (u_378_5 ?_)
      rw [mst_12]
      exact ⟨fun _ => h _ _ ha1 ha2, fun h5 => absurd h5 (hR.nn hi)⟩
    | some c =>
      rw [hp] at h
      intro v a' hlt2 hc hv ha'
      refine u_378_4 (rest n (i + 1) d a' v [c] Q (by omega) (by omega) ha' (fun hF s lf => ?_) ?_)
      · show evC _ _ _ c (s, 0, lf) = _
        rw [evC_part hc.1, hv]
        have hr : r32 (if c < 1000 then c else fcV V (c - 1000).toNat) := by
          split
          · unfold r32; omega
          · exact hF _ (by omega)
        show (s, wr (0 + (if c < 1000 then c else fcV V (c - 1000).toNat)), lf) = (s, (if c < 1000 then c else fcV V (c - 1000).toNat), lf)
        generalize (if c < 1000 then c else fcV V (c - 1000).toNat) = z at hr
        unfold r32 at hr
        rw [Int.zero_add, wr_id (by omega) (by omega)]
      · dsimp only at h
        exact h
theorem EV_cmp {F : Nat → Int} {st op : Bool} {l l' : List Int} {u v : Int} (h : SV F st op l u) (h' : SV F st op l' v) : EV F st op (l ++ (-1 :: l') ++ [-2]) (decide (u < v)) ∧ EV F st op (l ++ (-1 :: l') ++ [-3]) (decide (v < u)) := by
  constructor <;> intro s lf <;> refine ⟨u, ?_⟩ <;> rw [evL_app, evL_app, h s lf, evL_cons (c := -1)]
  · rw [show evC F st op (-1) (s, u, lf) = (s, 0, u) from rfl, h' s u]; rfl
  · rw [show evC F st op (-1) (s, u, lf) = (s, 0, u) from rfl, h' s u]; rfl
/-- what a reading of a truth goes on with -/
abbrev gS (V : xF) (D : yD) (T : TK) (N : Nat) (dp : Int) (Q : xRes → xF → yD → Prop) : Nat → List Int → Prop := fun j l => ∀ v a', (v = 0 ∨ v = 1) → (Fk V → EV (fcV V) (stV V) (opV V) l (decide (v = 1))) → Ah T j a' → j ≤ N → Q (.inl (some (vi v))) (mst V a' (-1) dp) D
abbrev gF (V : xF) (D : yD) (T : TK) (N : Nat) (dp : Nat) (Q : xRes → xF → yD → Prop) : Nat → Prop := fun e => ∀ v a' dp', 0 ≤ a' → a' ≤ 1000 - 10 * (dp : Int) → (v = 0 ∨ v = 1) → Q (.inl (some (vi v))) (mst V a' (T.2.2.1 e) dp') D
def needG (N i c n : Nat) : Prop := 5 * (N - i) + c ≤ n
theorem m_G (hR : LR V T m N) (hm : m ≤ 400) : ∀ n : Nat,
    (∀ (dp i d : Nat) (a : Int) (Q : xRes → xF → yD → Prop), i ≤ N → dp ≤ 6 → needG N i 2 n → 3 * (6 - dp) + 1 ≤ d → Ah T i a → rOk (pG T n 0 dp i) (gS V D T N dp Q) (gF V D T N dp Q) → RY d 371 0 [vr 405, vr 0, vr 0, vr 0] [] (mst V a (-1) (dp : Int)) D Q) ∧
    (∀ (dp i d : Nat) (a : Int) (Q : xRes → xF → yD → Prop), i ≤ N → dp ≤ 6 → needG N i 3 n → 3 * (6 - dp) + 2 ≤ d → Ah T i a → rOk (pG T n 1 dp i) (gS V D T N dp Q) (gF V D T N dp Q) → RY d 359 0 [vr 405, vr 0, vr 0] [] (mst V a (-1) (dp : Int)) D Q) ∧
    (∀ (dp i d : Nat) (a : Int) (Q : xRes → xF → yD → Prop), i ≤ N → dp ≤ 6 → needG N i 4 n → 3 * (6 - dp) + 3 ≤ d → Ah T i a → rOk (pG T n 3 dp i) (gS V D T N dp Q) (gF V D T N dp Q) → RY d 304 0 [vr 405, vr 0, vr 0] [] (mst V a (-1) (dp : Int)) D Q) := by
  obtain ⟨hT, hM, hV, hB⟩ := id hR
  intro n
  induction n using Nat.strongRecOn with
  | ind n IH =>
    refine ⟨?_, ?_, ?_⟩
    · -- an atom
      intro dp i d a Q hi hdp hn hd ha h
      unfold needG at hn
      obtain ⟨n', rfl⟩ : ∃ n', n = n' + 1 := ⟨n - 1, by omega⟩
      obtain ⟨d', rfl⟩ : ∃ d', d = d' + 1 := ⟨d - 1, by omega⟩
      have ih := IH n' (by omega)
      have hbi := hT.bnd hi
      have hm44 := hM.2.1
      rw [pG_0] at h
      refine u_371_0 ?_
      rw [mst_12]
      refine ⟨fun _ => m_here hT hM hi ha (u_371_14 ?_), fun h5 => absurd rfl h5⟩
      have deep : ∀ a', Q (.inl (some (vi 0))) (mst V a' (T.2.2.1 i) (dp : Int)) D → (((mst V a' (-1) (dp : Int)) 405 12 ≠ (-1) → Q (.inl (some (vi 0))) (mst V a' (-1) (dp : Int)) D) ∧ ((mst V a' (-1) (dp : Int)) 405 12 = (-1) → ∀ V3 : xF, V3 = up2 (mst V a' (-1) (dp : Int)) 405 12 (T.2.2.1 i) → Q (.inl (some (vi 0))) V3 D)) := by
        intro a' hq
        rw [mst_12]
        refine ⟨fun h5 => absurd rfl h5, fun _ => ?_⟩
        rintro V3 rfl
        rw [mst_w12]
        exact hq
      refine hR.has (by omega) (by omega) hi (Ah.beg hT hi) (fun hlt ht => u_371_21 ⟨fun _ => ?_, fun h5 => absurd h5 (by decide)⟩) (fun ht => u_371_21 ⟨fun h5 => absurd rfl h5, fun _ => ?_⟩)
      · -- not
        rw [pif_y ht] at h
        rw [mst_13]
        refine ⟨fun h6 => ?_, fun h6 => ?_⟩
        · rw [pif_n (by omega), rOk_bN] at h
          rintro V1 rfl
          rw [mst_w13, wr_id (by omega) (by omega), show (dp : Int) + 1 = (((dp + 1 : Nat)) : Int) by omega]
          refine ⟨fun h5 => absurd h5 (by decide), fun _ => ih.1 (dp + 1) (i + 1) d' _ _ (by omega) (by omega) (by unfold needG; omega) (by omega) (Ah.nxt hT hlt) ?_⟩
          refine rOk_mono (fun j l _ hh => ?_) (fun e _ hh => ?_) h
          · intro v a' hv hE hA hj
            have hh : gS V D T N dp Q j (l ++ [-6]) := hh
            have cont : Q (.inl (some (vi (if v = 0 then 1 else 0)))) (mst V a' (-1) (dp : Int)) D := by
              refine hh _ a' (by split <;> simp) (fun hF s lf => ?_) hA hj
              obtain ⟨lf', e1⟩ := hE hF s lf
              refine ⟨lf', ?_⟩
              rw [evL_app, e1]
              rcases hv with rfl | rfl <;> rfl
            refine u_371_76 ?_
            rw [mst_13, wr_id (by omega) (by omega), show (((dp + 1 : Nat)) : Int) - 1 = (dp : Int) by omega]
            refine ⟨fun h7 => ?_, fun h7 => ?_⟩
            · rintro V2 rfl
              rw [mst_w13]
              rw [if_neg h7] at cont
              exact cont
            · rintro V2 rfl
              rw [mst_w13]
              rw [if_pos h7] at cont
              exact cont
          · intro v a' dp' ha1 ha2 hv
            refine u_371_76 ⟨fun h7 => ?_, fun h7 => ?_⟩
            · rintro V2 rfl
              rw [mst_w13]
              exact hh 0 _ _ (by omega) (by omega) (Or.inl rfl)
            · rintro V2 rfl
              rw [mst_w13]
              exact hh 1 _ _ (by omega) (by omega) (Or.inr rfl)
        · rw [pif_y (by omega)] at h
          have hh : gF V D T N dp Q i := h
          have := deep (T.2.2.2 i) (hh 0 _ _ (by omega) (by omega) (Or.inl rfl))
          rw [mst_12] at this
          exact this
      · rw [pif_n ht] at h
        refine hR.sgn (by decide) hi (Ah.beg hT hi) (fun hlt ht2 => u_371_32 ⟨fun _ => ?_, fun h5 => absurd h5 (by decide)⟩) (fun ht2 => u_371_32 ⟨fun h5 => absurd rfl h5, fun _ => ?_⟩)
        · -- ( .. )
          rw [pif_y ht2] at h
          rw [mst_13]
          refine ⟨fun h6 => ?_, fun h6 => ?_⟩
          · rw [pif_n (by omega), rOk_bN] at h
            rintro V1 rfl
            rw [mst_w13, wr_id (x := (dp : Int) + 1) (by omega) (by omega), show (dp : Int) + 1 = (((dp + 1 : Nat)) : Int) by omega]
            refine ⟨fun _ => ?_, fun h5 => absurd rfl h5⟩
            rintro V2 rfl
            rw [mst_w11, mst_11]
            refine ih.2.2 (dp + 1) (i + 1) d' _ _ (by omega) (by omega) (by unfold needG; omega) (by omega) (Ah.sgn hT hm hi ht2).1 ?_
            refine rOk_mono (fun j l _ hh => ?_) (fun e he hh => ?_) h
            · intro v a' hv hE hA hj
              refine u_371_102 ?_
              rw [mst_12]
              refine ⟨fun h5 => absurd rfl h5, fun _ => hR.sgn (by decide) hj hA (fun hlt2 ht3 => u_371_117 ⟨fun _ => ?_, fun h5 => absurd h5 (by decide)⟩) (fun ht3 => u_371_117 ⟨fun h5 => absurd rfl h5, fun _ => ?_⟩)⟩
              · rw [pif_y ht3] at hh
                have hh : gS V D T N dp Q (j + 1) l := hh
                rintro V3 rfl V4 rfl
                rw [mst_w11, mst_11, mst_13, mst_w13, wr_id (x := (((dp + 1 : Nat)) : Int) - 1) (by omega) (by omega), show (((dp + 1 : Nat)) : Int) - 1 = (dp : Int) by omega]
                exact ⟨hv, hh v _ hv hE (Ah.sgn hT hm hj ht3).1 (by omega)⟩
              · rw [pif_n ht3] at hh
                have hh : gF V D T N dp Q j := hh
                rw [mst_12, mst_11]
                refine ⟨fun h5 => absurd rfl h5, fun _ => ?_⟩
                rintro V3 rfl V4 rfl V5 rfl
                rw [mst_w12, mst_w11, mst_w13, mst_11]
                have hbj := hT.bnd hj
                have hm4 := hM.2.1
                exact ⟨hv, hh v _ _ (by rw [wr_id (by omega) (by omega)]; omega) (by rw [wr_id (by omega) (by omega)]; omega) hv⟩
            · intro v a' dp' ha1 ha2 hv
              refine u_371_102 ?_
              have heN : e ≤ N := by
                have := pG_bd hT n' 3 (dp + 1) (i + 1) (by omega)
                rw [he] at this
                exact this
              rw [mst_12]
              refine ⟨fun _ => ?_, fun h5 => absurd h5 (hR.nn heN)⟩
              rintro V3 rfl V4 rfl
              rw [mst_w11, mst_w13, mst_11]
              exact ⟨hv, hh v _ _ (by rw [wr_id (by omega) (by omega)]; omega) (by rw [wr_id (by omega) (by omega)]; omega) hv⟩
          · rw [pif_y (by omega)] at h
            have hh : gF V D T N dp Q i := h
            have := deep (T.2.2.1 i) (hh 0 _ _ (by omega) (by omega) (Or.inl rfl))
            rw [mst_12] at this
            exact this
        · -- plain
          rw [pif_n ht2] at h
          have ret : ∀ {v : Int} {V1 : xF}, (v = 0 ∨ v = 1) → Q (.inl (some (vi v))) V1 D → RY (d' + 1) 371 39 [vr 405, vi (T.2.2.1 i), vi 0, vr 0] [vi v] V1 D Q := fun hv hq => u_371_39 ⟨hv, hq⟩
          refine u_376_0 (hR.has (by omega) (by omega) hi (Ah.beg hT hi) (fun hlt ht3 => u_376_6 ⟨fun h5 => absurd h5 (by decide), fun _ => ?_⟩) (fun ht3 => u_376_6 ⟨fun _ => ?_, fun h5 => absurd rfl h5⟩))
          · rw [pif_y ht3] at h
            have h : gS V D T N dp Q (i + 1) [-4] := h
            rw [mst_k (by decide) (by decide) (by decide)]
            exact ⟨hB.1, ret hB.1 (h _ _ hB.1 (fun _ s lf => ⟨lf, rfl⟩) (Ah.nxt hT hlt) hlt)⟩
          rw [pif_n ht3] at h
          refine hR.has (by omega) (by omega) hi (Ah.beg hT hi) (fun hlt ht4 => u_376_20 ⟨fun h5 => absurd h5 (by decide), fun _ => ?_⟩) (fun ht4 => u_376_20 ⟨fun _ => ?_, fun h5 => absurd rfl h5⟩)
          · rw [pif_y ht4] at h
            have h : gS V D T N dp Q (i + 1) [-5] := h
            rw [mst_k (by decide) (by decide) (by decide)]
            exact ⟨hB.2, ret hB.2 (h _ _ hB.2 (fun _ s lf => ⟨lf, rfl⟩) (Ah.nxt hT hlt) hlt)⟩
          rw [pif_n ht4, rOk_bN] at h
          refine m_sum hR hm n' i _ _ _ hi (by omega) (Ah.beg hT hi) ?_
          refine rOk_mono (fun j l hr hh => ?_) (fun e he hh => ?_) h
          · intro u a' hu hA
            have hbd := pSum_bd hT n' i hi
            rw [hr] at hbd
            have hj : j ≤ N := hbd.2.1
            have hij : i < j := hbd.1
            refine u_376_32 ?_
            rw [mst_12]
            -- the other side
            have other : ∀ (z : Int) (i2 : Int), kS T j (if i2 = 0 then 62 else 60) → z = (if i2 = 0 then -3 else -2) → rOk (bN (pSum T n' (j + 1)) (fun j' l' => (j', some (l ++ (-1 :: l') ++ [z])))) (gS V D T N dp Q) (gF V D T N dp Q) → RY (d' + 1) 378 0 [vr 405, vr 0] [] (mst V (wr (T.2.2.1 j + 1)) (-1) (dp : Int)) D (yback (d' + 1) 376 87 [vr 405, vi u, vi i2, vr 0] [] (yback (d' + 1) 371 39 [vr 405, vi (T.2.2.1 i), vi 0, vr 0] [] Q)) := by
              intro z i2 hs hz h9
              rw [rOk_bN] at h9
              have hs2 := Ah.sgn hT hm hj hs
              refine m_sum hR hm n' (j + 1) _ _ _ (by omega) (by omega) hs2.1 ?_
              refine rOk_mono (fun j' l' hr' hh' => ?_) (fun e he' hh' => ?_) h9
              · intro w a2 hw hA2
                have hbd2 := pSum_bd hT n' (j + 1) (by omega)
                rw [hr'] at hbd2
                have hj' : j' ≤ N := hbd2.2.1
                have hh' : gS V D T N dp Q j' (l ++ (-1 :: l') ++ [z]) := hh'
                have fin : ∀ v : Int, (v = 0 ∨ v = 1) → (decide (v = 1) = if i2 = 0 then decide (w < u) else decide (u < w)) → Q (.inl (some (vi v))) (mst V a2 (-1) (dp : Int)) D := by
                  intro v hv hdv
                  refine hh' v a2 hv (fun hF => ?_) hA2 hj'
                  rw [hdv]
                  have hc := EV_cmp (hu hF) (hw hF)
                  by_cases h0 : i2 = 0
                  · rw [hz, if_pos h0, if_pos h0]; exact hc.2
                  · rw [hz, if_neg h0, if_neg h0]; exact hc.1
                refine u_376_87 ⟨fun h0 => ⟨fun h7 => ?_, fun h7 => ?_⟩, fun h0 => ⟨fun h7 => ?_, fun h7 => ?_⟩⟩
                · exact ret (Or.inl rfl) (fin 0 (Or.inl rfl) (by rw [if_pos h0]; symm; exact decide_eq_false (by omega)))
                · exact ret (Or.inr rfl) (fin 1 (Or.inr rfl) (by rw [if_pos h0]; symm; exact decide_eq_true h7))
                · exact ret (Or.inl rfl) (fin 0 (Or.inl rfl) (by rw [if_neg h0]; symm; exact decide_eq_false (by omega)))
                · exact ret (Or.inr rfl) (fin 1 (Or.inr rfl) (by rw [if_neg h0]; symm; exact decide_eq_true h7))
              · intro w a2 ha1 ha2
                refine u_376_87 ⟨fun h0 => ⟨fun h7 => ?_, fun h7 => ?_⟩, fun h0 => ⟨fun h7 => ?_, fun h7 => ?_⟩⟩
                · exact ret (Or.inl rfl) (hh' 0 _ _ (by omega) (by omega) (Or.inl rfl))
                · exact ret (Or.inr rfl) (hh' 1 _ _ (by omega) (by omega) (Or.inr rfl))
                · exact ret (Or.inl rfl) (hh' 0 _ _ (by omega) (by omega) (Or.inl rfl))
                · exact ret (Or.inr rfl) (hh' 1 _ _ (by omega) (by omega) (Or.inr rfl))
            refine ⟨fun _ => hR.sgn (by decide) hj hA (fun hlt2 ht5 => u_376_49 ⟨fun _ => ?_, fun h5 => absurd h5 (by decide)⟩) (fun ht5 => u_376_49 ⟨fun h5 => absurd rfl h5, fun _ => ?_⟩), fun h5 => absurd rfl h5⟩
            · rw [pif_y ht5] at hh
              rintro V1 rfl
              rw [mst_w11, mst_11]
              exact other (-2) 1 (by rw [if_neg (by decide)]; exact ht5) (by rw [if_neg (by decide)]) hh
            · rw [pif_n ht5] at hh
              refine hR.sgn (by decide) hj (Ah.beg hT hj) (fun hlt2 ht6 => u_376_60 ⟨fun _ => ?_, fun h5 => absurd h5 (by decide)⟩) (fun ht6 => u_376_60 ⟨fun h5 => absurd rfl h5, fun _ => ?_⟩)
              · rw [pif_y ht6] at hh
                rintro V1 rfl
                rw [mst_w11, mst_11]
                exact other (-3) 0 (by rw [if_pos rfl]; exact ht6) (by rw [if_pos rfl]) hh
              · rw [pif_n ht6] at hh
                have hh : gF V D T N dp Q j := hh
                rw [mst_12, mst_11]
                refine ⟨fun h5 => absurd rfl h5, fun _ => ?_⟩
                rintro V1 rfl
                rw [mst_w12]
                have hbj := hT.bnd hj
                have hm4 := hM.2.1
                exact ret (Or.inl rfl) (hh 0 _ _ (by omega) (by omega) (Or.inl rfl))
          · intro u a' ha1 ha2
            have heN : e ≤ N := by
              have := pSum_bd hT n' i hi
              rw [he] at this
              exact this
            refine u_376_32 ?_
            rw [mst_12]
            exact ⟨fun h5 => absurd h5 (hR.nn heN), fun _ => ret (Or.inl rfl) (hh 0 _ _ (by omega) (by omega) (Or.inl rfl))⟩
    · -- and
      intro dp i d a Q hi hdp hn hd ha h
      unfold needG at hn
      obtain ⟨n', rfl⟩ : ∃ n', n = n' + 1 := ⟨n - 1, by omega⟩
      obtain ⟨d', rfl⟩ : ∃ d', d = d' + 1 := ⟨d - 1, by omega⟩
      have h : rOk (bN (pG T n' 0 dp i) (fun j l => bN (pG T n' 2 dp j) (fun j' l' => (j', some (l ++ l'))))) (gS V D T N dp Q) (gF V D T N dp Q) := h
      rw [rOk_bN] at h
      have loop : ∀ (c j : Nat) (a u : Int) (l0 : List Int) (v2 : xV), c ≤ n' → j ≤ N → needG N j 1 c → Ah T j a → (u = 0 ∨ u = 1) → (Fk V → EV (fcV V) (stV V) (opV V) l0 (decide (u = 1))) → rOk (bN (pG T c 2 dp j) (fun j' l' => (j', some (l0 ++ l')))) (gS V D T N dp Q) (gF V D T N dp Q) → RY (d' + 1) 359 5 [vr 405, vi u, v2] [] (mst V a (-1) (dp : Int)) D Q := by
        intro c
        induction c with
        | zero => intro j a u l0 v2 hc hj hnn; unfold needG at hnn; omega
        | succ c ihc =>
          intro j a u l0 v2 hc hj hnn hA hu hE h9
          unfold needG at hnn
          rw [pG_2] at h9
          refine u_359_5 ?_
          rw [mst_12]
          refine ⟨fun h5 => absurd rfl h5, fun _ => hR.has (by omega) (by omega) hj hA (fun hlt ht => u_359_19 ⟨fun h5 => absurd h5 (by decide), fun _ => ?_⟩) (fun ht => u_359_19 ⟨fun _ => ?_, fun h5 => absurd rfl h5⟩)⟩
          · rw [pif_y ht, rOk_bN, rOk_bN] at h9
            refine (IH c (by omega)).1 dp (j + 1) d' _ _ (by omega) hdp (by unfold needG; omega) (by omega) (Ah.nxt hT hlt) ?_
            refine rOk_mono (fun j1 l1 hr hh => ?_) (fun e he hh => ?_) h9
            · intro w a1 hw hE1 hA1 hj1
              have hbd := pG_bd hT c 0 dp (j + 1) (by omega)
              rw [hr] at hbd
              have hbd : bdP N 0 (j + 1) j1 l1 := hbd
              have hbj := hbd.1
              refine u_359_26 ?_
              have cont : ∀ u' : Int, (u' = 0 ∨ u' = 1) → (decide (u' = 1) = (decide (u = 1) && decide (w = 1))) → RY (d' + 1) 359 5 [vr 405, vi u', vi w] [] (mst V a1 (-1) (dp : Int)) D Q := by
                intro u' hu' hd'
                refine ihc j1 a1 u' (l0 ++ (l1 ++ [-7])) (vi w) (by omega) hj1 (by unfold needG; omega) hA1 hu' (fun hF s lf => ?_) ?_
                · obtain ⟨f1, e1⟩ := hE hF s lf
                  obtain ⟨f2, e2⟩ := hE1 hF (decide (u = 1) :: s) f1
                  refine ⟨f2, ?_⟩
                  rw [evL_app, evL_app, e1, e2, hd']
                  rfl
                · rw [rOk_bN] at hh ⊢
                  refine rOk_mono (fun j2 l2 _ h8 => ?_) (fun e _ h8 => h8) hh
                  have h8 : gS V D T N dp Q j2 (l0 ++ (l1 ++ [-7] ++ l2)) := h8
                  show gS V D T N dp Q j2 (l0 ++ (l1 ++ [-7]) ++ l2)
                  rw [List.append_assoc]
                  exact h8
              refine ⟨fun h7 => cont 0 (Or.inl rfl) (by rw [h7]; rfl), fun h7 => ⟨fun h8 => cont 0 (Or.inl rfl) (by rw [h8]; simp), fun h8 => cont 1 (Or.inr rfl) ?_⟩⟩
              have e1 : u = 1 := by omega
              have e2 : w = 1 := by omega
              rw [e1, e2]; rfl
            · intro w a1 dp' ha1 ha2 hw
              have heN : e ≤ N := by
                have := pG_bd hT c 0 dp (j + 1) (by omega)
                rw [he] at this
                exact this
              have out : ∀ u' : Int, (u' = 0 ∨ u' = 1) → RY (d' + 1) 359 5 [vr 405, vi u', vi w] [] (mst V a1 (T.2.2.1 e) dp') D Q := by
                intro u' hu'
                refine u_359_5 ?_
                rw [mst_12]
                exact ⟨fun _ => ⟨hu', hh u' _ _ ha1 ha2 hu'⟩, fun h5 => absurd h5 (hR.nn heN)⟩
              exact u_359_26 ⟨fun _ => out 0 (Or.inl rfl), fun _ => ⟨fun _ => out 0 (Or.inl rfl), fun _ => out 1 (Or.inr rfl)⟩⟩
          · rw [pif_n ht, rOk_bN] at h9
            have h9 : gS V D T N dp Q j (l0 ++ []) := h9
            rw [List.append_nil] at h9
            exact ⟨hu, h9 u _ hu hE (Ah.beg hT hj) hj⟩
      refine u_359_0 ((IH n' (by omega)).1 dp i d' _ _ hi hdp (by unfold needG; omega) (by omega) ha ?_)
      refine rOk_mono (fun j l hr hh => ?_) (fun e he hh => ?_) h
      · intro v a1 hv hE hA hj
        have hbd := pG_bd hT n' 0 dp i hi
        rw [hr] at hbd
        have hbd : bdP N 0 i j l := hbd
        have hij := (hbd.2.2.2 (by omega)).1
        exact u_359_4 (loop n' j a1 v l _ (Nat.le_refl _) hj (by unfold needG; omega) hA hv hE hh)
      · intro v a1 dp' ha1 ha2 hv
        have heN : e ≤ N := by
          have := pG_bd hT n' 0 dp i hi
          rw [he] at this
          exact this
        refine u_359_4 (u_359_5 ?_)
        rw [mst_12]
        exact ⟨fun _ => ⟨hv, hh v _ _ ha1 ha2 hv⟩, fun h5 => absurd h5 (hR.nn heN)⟩
    · -- or
      intro dp i d a Q hi hdp hn hd ha h
      unfold needG at hn
      obtain ⟨n', rfl⟩ : ∃ n', n = n' + 1 := ⟨n - 1, by omega⟩
      obtain ⟨d', rfl⟩ : ∃ d', d = d' + 1 := ⟨d - 1, by omega⟩
      have h : rOk (bN (pG T n' 1 dp i) (fun j l => bN (pG T n' 4 dp j) (fun j' l' => (j', some (l ++ l'))))) (gS V D T N dp Q) (gF V D T N dp Q) := h
      rw [rOk_bN] at h
      have loop : ∀ (c j : Nat) (a u : Int) (l0 : List Int) (v2 : xV), c ≤ n' → j ≤ N → needG N j 1 c → Ah T j a → (u = 0 ∨ u = 1) → (Fk V → EV (fcV V) (stV V) (opV V) l0 (decide (u = 1))) → rOk (bN (pG T c 4 dp j) (fun j' l' => (j', some (l0 ++ l')))) (gS V D T N dp Q) (gF V D T N dp Q) → RY (d' + 1) 304 5 [vr 405, vi u, v2] [] (mst V a (-1) (dp : Int)) D Q := by
        intro c
        induction c with
        | zero => intro j a u l0 v2 hc hj hnn; unfold needG at hnn; omega
        | succ c ihc =>
          intro j a u l0 v2 hc hj hnn hA hu hE h9
          unfold needG at hnn
          have h9 : rOk (bN (pif (kW T j (wdS 55)) (bN (pG T c 1 dp (j + 1)) (fun j l => bN (pG T c 4 dp j) (fun j' l' => (j', some (l ++ [-8] ++ l'))))) (j, some [])) (fun j' l' => (j', some (l0 ++ l')))) (gS V D T N dp Q) (gF V D T N dp Q) := h9
          refine u_304_5 ?_
          rw [mst_12]
          refine ⟨fun h5 => absurd rfl h5, fun _ => hR.has (by omega) (by omega) hj hA (fun hlt ht => u_304_19 ⟨fun h5 => absurd h5 (by decide), fun _ => ?_⟩) (fun ht => u_304_19 ⟨fun _ => ?_, fun h5 => absurd rfl h5⟩)⟩
          · rw [pif_y ht, rOk_bN, rOk_bN] at h9
            refine (IH c (by omega)).2.1 dp (j + 1) d' _ _ (by omega) hdp (by unfold needG; omega) (by omega) (Ah.nxt hT hlt) ?_
            refine rOk_mono (fun j1 l1 hr hh => ?_) (fun e he hh => ?_) h9
            · intro w a1 hw hE1 hA1 hj1
              have hbd := pG_bd hT c 1 dp (j + 1) (by omega)
              rw [hr] at hbd
              have hbd : bdP N 1 (j + 1) j1 l1 := hbd
              have hbj := hbd.1
              refine u_304_26 ?_
              have cont : ∀ u' : Int, (u' = 0 ∨ u' = 1) → (decide (u' = 1) = (decide (u = 1) || decide (w = 1))) → RY (d' + 1) 304 5 [vr 405, vi u', vi w] [] (mst V a1 (-1) (dp : Int)) D Q := by
                intro u' hu' hd'
                refine ihc j1 a1 u' (l0 ++ (l1 ++ [-8])) (vi w) (by omega) hj1 (by unfold needG; omega) hA1 hu' (fun hF s lf => ?_) ?_
                · obtain ⟨f1, e1⟩ := hE hF s lf
                  obtain ⟨f2, e2⟩ := hE1 hF (decide (u = 1) :: s) f1
                  refine ⟨f2, ?_⟩
                  rw [evL_app, evL_app, e1, e2, hd']
                  rfl
                · rw [rOk_bN] at hh ⊢
                  refine rOk_mono (fun j2 l2 _ h8 => ?_) (fun e _ h8 => h8) hh
                  have h8 : gS V D T N dp Q j2 (l0 ++ (l1 ++ [-8] ++ l2)) := h8
                  show gS V D T N dp Q j2 (l0 ++ (l1 ++ [-8]) ++ l2)
                  rw [List.append_assoc]
                  exact h8
              refine ⟨fun h7 => cont 1 (Or.inr rfl) ?_, fun h7 => ⟨fun h8 => cont 0 (Or.inl rfl) (by rw [h7, h8]; rfl), fun h8 => cont 1 (Or.inr rfl) ?_⟩⟩
              · have e1 : u = 1 := by omega
                rw [e1]; rfl
              · have e2 : w = 1 := by omega
                rw [e2]; simp
            · intro w a1 dp' ha1 ha2 hw
              have heN : e ≤ N := by
                have := pG_bd hT c 1 dp (j + 1) (by omega)
                rw [he] at this
                exact this
              have out : ∀ u' : Int, (u' = 0 ∨ u' = 1) → RY (d' + 1) 304 5 [vr 405, vi u', vi w] [] (mst V a1 (T.2.2.1 e) dp') D Q := by
                intro u' hu'
                refine u_304_5 ?_
                rw [mst_12]
                exact ⟨fun _ => ⟨hu', hh u' _ _ ha1 ha2 hu'⟩, fun h5 => absurd h5 (hR.nn heN)⟩
              exact u_304_26 ⟨fun _ => out 1 (Or.inr rfl), fun _ => ⟨fun _ => out 0 (Or.inl rfl), fun _ => out 1 (Or.inr rfl)⟩⟩
          · rw [pif_n ht, rOk_bN] at h9
            have h9 : gS V D T N dp Q j (l0 ++ []) := h9
            rw [List.append_nil] at h9
            exact ⟨hu, h9 u _ hu hE (Ah.beg hT hj) hj⟩
      refine u_304_0 ((IH n' (by omega)).2.1 dp i d' _ _ hi hdp (by unfold needG; omega) (by omega) ha ?_)
      refine rOk_mono (fun j l hr hh => ?_) (fun e he hh => ?_) h
      · intro v a1 hv hE hA hj
        have hbd := pG_bd hT n' 1 dp i hi
        rw [hr] at hbd
        have hbd : bdP N 1 i j l := hbd
        have hij := (hbd.2.2.2 (by omega)).1
        exact u_304_4 (loop n' j a1 v l _ (Nat.le_refl _) hj (by unfold needG; omega) hA hv hE hh)
      · intro v a1 dp' ha1 ha2 hv
        have heN : e ≤ N := by
          have := pG_bd hT n' 1 dp i hi
          rw [he] at this
          exact this
        refine u_304_4 (u_304_5 ?_)
        rw [mst_12]
        exact ⟨fun _ => ⟨hv, hh v _ _ ha1 ha2 hv⟩, fun h5 => absurd h5 (hR.nn heN)⟩
end MLAW
