/-! ===== ASK: THE MODEL ===== -/
section MASK
variable {d : Nat} {V : xF} {D : yD} {Q : xRes → xF → yD → Prop} {p : Rw} {b : Nat → Int}
theorem m_haveOne {a c : Nat} {f g : Nat → Int} (ha : a < 192) (hc : c < 192) (hf : ∀ t, t < 64 → V 417 (64 * a + t) = f t) (hg : ∀ t, t < 64 → V 417 (64 * c + t) = g t) (h : Q (.inl (some (vi (if eqT f g 64 = true then 1 else 0)))) V D) : RY d 272 0 [vr 405, vi (a : Int), vi (c : Int), vr 0, vr 0] [] V D Q := by
  refine u_272_0 ?_
  have go : ∀ (n k : Nat), k + n = 64 → eqT f g k = true → RY d 272 5 [vr 405, vi (a : Int), vi (c : Int), vi 1, vi (k : Int)] [] V D Q := by
    intro n
    induction n with
    | zero =>
      intro k hk he
      have hk : k = 64 := by omega
      subst hk
      rw [if_pos he] at h
      exact u_272_5 ⟨fun _ => ⟨Or.inr rfl, h⟩, fun hlt => absurd hlt (by decide)⟩
    | succ n ih =>
      intro k hk he
      have hk64 : k < 64 := by omega
      have e1 : wr ((k : Int) + 1) = ((k + 1 : Nat) : Int) := by rw [wr_id (by omega) (by omega)]; omega
      refine u_272_5 ⟨fun hle => by clear e1; omega, fun _ => ⟨fun h0 => absurd h0 (by decide), fun _ => ?_⟩⟩
      have f1 := hf k hk64
      have g1 := hg k hk64
      have w1 := wr64 ha hk64
      have w2 := wr64 hc hk64
      rw [w1, w2, nn_toNat, f1]
      have : V 417 (((64 * c + k : Nat) : Int)).toNat = g k := by rw [nn_toNat]; exact g1
      clear w1 w2
      refine ⟨by clear e1; omega, by clear e1; omega, fun hne => ?_, fun heq => ?_⟩
      · have hno : eqT f g 64 = false := by
          cases hb : eqT f g 64 with
          | false => rfl
          | true =>
            have h9 := eqT_iff.mp hb k hk64
            first | exact absurd h9 hne | (rw [this] at hne; exact absurd h9 hne)
        rw [hno, if_neg (by decide)] at h
        exact u_272_5 ⟨fun _ => ⟨Or.inl rfl, h⟩, fun _ => ⟨fun _ => ⟨Or.inl rfl, h⟩, fun h9 => absurd rfl h9⟩⟩
      · have heq : f k = g k := by first | exact heq | (rw [this] at heq; exact heq)
        rw [e1]
        clear e1
        exact ih (k + 1) (by omega) (by unfold eqT; rw [he, heq]; simp)
  exact go 64 0 (by omega) rfl
theorem m_alikeBy {r i : Nat} {s : Int} {g : Nat → Bool} (hW : WF (V 406)) (hr : (r : Int) < V 406 3) (hM : Marks (V 406) r g (pN (V 406) r) V) (hi : i < pN (V 406) r) (h : Q (.inl (some (vi (smF g (V 406) r s i)))) V D) :
    RY d 184 0 [vr 405, vi (r : Int), vi ((plN (V 406) r i : Nat) : Int), vi s, vr 0, vr 0, vr 0, vr 0, vr 0, vr 0, vr 0] [] V D Q := by
  have hb := pl_b hW hr
  obtain ⟨r5, hw, hd⟩ := hW.room hr
  have hsd := sd_b s
  have co : ∀ j, j < pN (V 406) r → wr ((wr (((plN (V 406) r j : Nat) : Int).tdiv 16)) + (yr_162 s V D)) = pX (V 406) r j + sdX s ∧ wr ((((plN (V 406) r j : Nat) : Int).tmod 16) + (yr_163 s V D)) = pY (V 406) r j + sdY s := by
    intro j hj
    obtain ⟨p1, p2, p3, p4⟩ := plN_is hW hr hj
    have hq := pl_at hW hr hj
    unfold isPl at hq
    have e1 : ((plN (V 406) r j : Nat) : Int).tdiv 16 = pX (V 406) r j := by
      rw [tdiv_nn (by omega)]
      unfold pX
      generalize j / prow (V 406) r = q at p3 ⊢
      omega
    have e2 : ((plN (V 406) r j : Nat) : Int).tmod 16 = pY (V 406) r j := by
      rw [tmod_nn (by omega)]
      unfold pY
      generalize j % prow (V 406) r = q at p4 ⊢
      omega
    rw [e1, e2, (yrSd s).1, (yrSd s).2, wr_id (x := pX (V 406) r j) (by omega) (by omega)]
    exact ⟨wr_id (by omega) (by omega), wr_id (by omega) (by omega)⟩
  have th : ∀ j, yr_164 (r : Int) (pX (V 406) r j + sdX s) (pY (V 406) r j + sdY s) V D = if nbB (V 406) r s j = true then 1 else 0 := fun j => by
    rw [(yr164 hW hr).2]
    unfold nbB
    by_cases hc : (1 ≤ pX (V 406) r j + sdX s ∧ pX (V 406) r j + sdX s < rW (V 406) r) ∧ (1 ≤ pY (V 406) r j + sdY s ∧ pY (V 406) r j + sdY s < rD (V 406) r)
    · rw [if_pos hc, if_pos (decide_eq_true hc)]
    · rw [if_neg hc, if_neg (fun h9 => hc (of_decide_eq_true h9))]
  have pq : ∀ j, nbB (V 406) r s j = true → wr ((wr ((16 : Int) * (pX (V 406) r j + sdX s))) + (pY (V 406) r j + sdY s)) = ((plN (V 406) r (nbN (V 406) r s j) : Nat) : Int) ∧ plN (V 406) r (nbN (V 406) r s j) < 192 := by
    intro j hnb
    obtain ⟨n1, n2, n3⟩ := nb_is hW hr hnb
    obtain ⟨p1, p2, p3, p4⟩ := plN_is hW hr n1
    have hq := pl_at hW hr n1
    unfold isPl at hq
    unfold plc at p1
    rw [← n2, ← n3, wr_id (x := (16 : Int) * pX (V 406) r (nbN (V 406) r s j)) (by omega) (by omega), wr_id (by omega) (by omega)]
    exact ⟨p1, p2⟩
  refine u_184_0 ⟨by rw [(co i hi).1, (co i hi).2]; exact (yr164 hW hr).1, ?_⟩
  rw [(co i hi).1, (co i hi).2, th i]
  have go : ∀ (c k n : Nat) (v9 v10 : xV), k + c = 256 → n ≤ pN (V 406) r → (∀ j, j < n → plN (V 406) r j < k) → (∀ j, n ≤ j → j < pN (V 406) r → k ≤ plN (V 406) r j) →
      RY d 184 39 [vr 405, vi (r : Int), vi ((plN (V 406) r i : Nat) : Int), vi s, vi (pX (V 406) r i + sdX s), vi (pY (V 406) r i + sdY s), vi (if nbB (V 406) r s i = true then 1 else 0), vi (cntB (fun j => g j && samB (V 406) r s i j) n), vi (k : Int), v9, v10] [] V D Q := by
    intro c
    induction c with
    | zero =>
      intro k n v9 v10 hk hn h1 h2
      have hk : k = 256 := by omega
      subst hk
      have hn2 : n = pN (V 406) r := by
        apply Classical.byContradiction
        intro hne
        have := h2 n (Nat.le_refl _) (by omega)
        have := (plN_is hW hr (n := n) (by omega)).2.1
        omega
      subst hn2
      exact u_184_39 ⟨fun _ => h, fun hlt => absurd hlt (by decide)⟩
    | succ c ih =>
      intro k n v9 v10 hk hn h1 h2
      have e1 : wr ((k : Int) + 1) = ((k + 1 : Nat) : Int) := by rw [wr_id (by omega) (by omega)]; omega
      refine u_184_39 ⟨fun hle => by clear e1; omega, fun _ => ⟨by clear e1; omega, ?_⟩⟩
      rw [nn_toNat, e1]
      clear e1
      by_cases hx : n < pN (V 406) r ∧ plN (V 406) r n = k
      · obtain ⟨hnN, hk2⟩ := hx
        have hv := hM.1 n hnN
        rw [hk2] at hv
        have n1 : ∀ j, j < n + 1 → plN (V 406) r j < k + 1 := fun j hj => by
          by_cases e : j = n
          · rw [e]; omega
          · have := h1 j (by omega); omega
        have n2 : ∀ j, n + 1 ≤ j → j < pN (V 406) r → k + 1 ≤ plN (V 406) r j := fun j hj hj2 => by
          have := plN_mono hW hr hj2 (show n < j by omega)
          omega
        have nxt := fun v9 v10 => ih (k + 1) (n + 1) v9 v10 (by omega) (by omega) n1 n2
        have hcb := cntB_b (fun j => g j && samB (V 406) r s i j) n
        have ec : cntB (fun j => g j && samB (V 406) r s i j) (n + 1) = cntB (fun j => g j && samB (V 406) r s i j) n + (if (g n && samB (V 406) r s i n) = true then 1 else 0) := rfl
        rw [ec] at nxt
        have e2 : wr (cntB (fun j => g j && samB (V 406) r s i j) n + 1) = cntB (fun j => g j && samB (V 406) r s i j) n + 1 := wr_id (by omega) (by omega)
        have e0 : wr (cntB (fun j => g j && samB (V 406) r s i j) n + 0) = cntB (fun j => g j && samB (V 406) r s i j) n + 0 := wr_id (by omega) (by omega)
        cases hg : g n with
        | false =>
          rw [hg, if_neg (by decide)] at hv
          rw [hg, Bool.false_and, if_neg (show ¬ (false = true) by decide), Int.add_zero] at nxt
          exact ⟨fun hne => absurd hv hne, fun _ => nxt _ _⟩
        | true =>
          rw [hg, if_pos rfl] at hv
          rw [hg, Bool.true_and] at nxt
          refine ⟨fun _ => ?_, fun h0 => by rw [hv] at h0; exact absurd h0 (by decide)⟩
          have c1 := (co n hnN).1
          have c2 := (co n hnN).2
          rw [hk2] at c1 c2
          rw [c1, c2, th n]
          refine ⟨(yr164 hW hr).1, fun heq => ⟨fun h0 => ?_, fun hne => ?_⟩, fun hne => ?_⟩
          · -- neither has a place there
            have b1 : nbB (V 406) r s i = false := by
              cases hb1 : nbB (V 406) r s i with
              | false => rfl
              | true => rw [hb1, if_pos rfl] at h0; exact absurd h0 (by decide)
            have b2 : nbB (V 406) r s n = false := by
              rw [h0] at heq
              cases hb1 : nbB (V 406) r s n with
              | false => rfl
              | true => rw [hb1, if_pos rfl] at heq; exact absurd heq (by decide)
            have es : samB (V 406) r s i n = true := by unfold samB; rw [b1, b2]; rfl
            rw [es, if_pos rfl] at nxt
            rw [e2]
            exact nxt _ _
          · have b1 : nbB (V 406) r s i = true := by
              apply Classical.byContradiction
              intro hb1
              rw [if_neg hb1] at hne
              exact hne rfl
            have b2 : nbB (V 406) r s n = true := by
              apply Classical.byContradiction
              intro hb1
              rw [if_neg hb1, if_pos b1] at heq
              exact absurd heq (by decide)
            have es : samB (V 406) r s i n = eqT (hP (V 406) r (nbN (V 406) r s i)) (hP (V 406) r (nbN (V 406) r s n)) 64 := by unfold samB; rw [b1, b2]; simp
            rw [(pq i b1).1, (pq n b2).1]
            refine m_haveOne (f := hP (V 406) r (nbN (V 406) r s i)) (g := hP (V 406) r (nbN (V 406) r s n)) (pq i b1).2 (pq n b2).2 (hM.2.2 _ (nb_is hW hr b1).1) (hM.2.2 _ (nb_is hW hr b2).1) ?_
            show RY d 184 128 _ _ V D Q
            rw [es] at nxt
            refine u_184_128 ⟨fun hz => ?_, fun hz => ?_⟩
            · have hf : ¬ eqT (hP (V 406) r (nbN (V 406) r s i)) (hP (V 406) r (nbN (V 406) r s n)) 64 = true := fun h9 => by rw [if_pos h9] at hz; exact absurd hz (by decide)
              rw [if_neg hf] at nxt
              have e9 : wr ((k : Int) + 1) = ((k + 1 : Nat) : Int) := by clear e0 e2; rw [wr_id (by omega) (by omega)]; omega
              rw [e0, e9]; exact nxt _ _
            · have hf : eqT (hP (V 406) r (nbN (V 406) r s i)) (hP (V 406) r (nbN (V 406) r s n)) 64 = true := Classical.byContradiction fun h9 => hz (by rw [if_neg h9])
              rw [if_pos hf] at nxt
              have e9 : wr ((k : Int) + 1) = ((k + 1 : Nat) : Int) := by clear e0 e2; rw [wr_id (by omega) (by omega)]; omega
              rw [e2, e9]; exact nxt _ _
          · have es : samB (V 406) r s i n = false := by
              unfold samB
              have : ¬ nbB (V 406) r s i = nbB (V 406) r s n := fun h9 => hne (by rw [h9])
              rw [decide_eq_false this]
              rfl
            rw [es, if_neg (show ¬ (false = true) by decide), Int.add_zero] at nxt
            exact nxt _ _
      · have hv : V 415 k = 0 := hM.2.1 k (by omega) fun j hj e => by
          rcases Nat.lt_trichotomy j n with h9 | h9 | h9
          · have := h1 j h9
            omega
          · exact hx ⟨by omega, by rw [← h9]; exact e⟩
          · have := plN_mono hW hr hj h9
            have := h2 n (Nat.le_refl _) (by omega)
            omega
        refine ⟨fun hne => absurd hv hne, fun _ => ih (k + 1) n _ _ (by omega) hn (fun j hj => by have := h1 j hj; omega) (fun j hj hj2 => ?_)⟩
        have a1 := h2 j hj hj2
        by_cases e : plN (V 406) r j = k
        · exfalso
          rcases Nat.lt_or_ge n j with h9 | h9
          · have := plN_mono hW hr hj2 h9
            have := h2 n (Nat.le_refl _) (by omega)
            omega
          · have : j = n := by omega
            exact hx ⟨by omega, by rw [← this]; exact e⟩
        · omega
  exact go 256 0 0 _ _ (by omega) (Nat.zero_le _) (fun j hj => absurd hj (Nat.not_lt_zero j)) (fun j _ _ => Nat.zero_le _)
theorem ma_ask {r n : Int} (hT : TpM V b n) (hW : WF (V 406))
    (h : ∀ V', V' 405 0 = tpCode (aTp (V 406) r n b (fun r => askP (V 406) r b (n / 2).toNat)) → Cor (up2 V 405 8 0) V' → Q (.inl (some (vi (mVal (aTp (V 406) r n b (fun r => askP (V 406) r b (n / 2).toNat)))))) V' D) :
    RY d 52 0 [vr 405, vi r, vr 0, vr 0, vr 0, vr 0, vr 0, vr 0, vr 0] [] V D Q := by
  have hT' := hT
  obtain ⟨t2, t3, t5, t6⟩ := hT'
  refine u_52_0 ⟨yg132, ?_⟩
  rw [yr132 hW]
  refine m_rows hT ?_
  intro V1 C1 F1 h1
  have e6 : V1 406 = V 406 := F1.at_ 406 (by decide)
  unfold aTp at h
  show RY d 52 9 _ _ V1 D Q
  refine u_52_9 ⟨fun h5 => ?_, fun h5 => ?_⟩
  · by_cases hr : 0 ≤ r ∧ r < V 406 3
    · rw [if_pos hr] at h1 h
      have hok : okRows b n := by
        rcases h1 with h1 | h1 | h1
        · omega
        · exact h1.2.1
        · omega
      rw [if_pos hok] at h
      obtain ⟨r, rfl⟩ : ∃ k : Nat, r = (k : Int) := ⟨r.toNat, by omega⟩
      rw [nn_toNat] at h
      have hm : n = ((2 * (n / 2).toNat : Nat) : Int) := by have := hok.2.1; omega
      have h20 : (n / 2).toNat ≤ 20 := by have := hok.1; omega
      obtain ⟨m, hm'⟩ : ∃ m, m = (n / 2).toNat := ⟨_, rfl⟩
      rw [← hm'] at hm h20 h
      rw [show vi n = vi (((2 * m : Nat)) : Int) by rw [← hm]]
      refine m_marks h20 (by rw [F1.at_ 410 (by decide)]; exact t2) (fun j hj => (hok.2.2 j (by omega)).1) (by rw [e6]; exact hW) (by rw [e6]; exact hr.2) ?_
      rw [e6]
      intro V2 hM F2
      have C2 : Cor (up2 V 405 8 0) V2 := C1.tr (F2.cor (by decide))
      have t0 : V1 405 0 = 0 := by
        rcases h1 with h1 | h1 | h1
        · omega
        · exact h1.2.2
        · omega
      have hq := h V2 (by rw [F2.at_ 405 (by decide), t0]; rfl) C2
      dsimp only [mVal] at hq
      have e62 : V2 406 = V 406 := by rw [F2.at_ 406 (by decide)]; exact e6
      unfold askP at hq
      obtain ⟨g, hg⟩ : ∃ g, g = fitP (V 406) r b m := ⟨_, rfl⟩
      rw [← hg] at hM hq
      have hM2 : Marks (V2 406) r g (pN (V2 406) r) V2 := by rw [e62]; exact hM
      have hr2 : (r : Int) < V2 406 3 := by rw [e62]; exact hr.2
      have hW2 : WF (V2 406) := by rw [e62]; exact hW
      show RY d 52 25 _ _ V2 D Q
      rw [← hg]
      refine u_52_25 ?_
      by_cases hfew : cntB g (pN (V 406) r) < 2
      · rw [if_pos hfew] at hq
        exact u_52_37 ⟨fun h9 => absurd h9 (by decide), fun _ => ⟨fun _ => hq, fun h9 => by omega⟩⟩
      · rw [if_neg hfew] at hq
        have most : ∀ (s : Nat) (f l : Int), (gpF g (V 406) r (s : Int) < l → ∀ v7 v8, RY d 52 37 [vr 405, vi (r : Int), vi ((2 * m : Nat) : Int), vi (cntB g (pN (V 406) r)), vi (s : Int), vi (gpF g (V 406) r (s : Int)), vi (wr ((s : Int) + 1)), v7, v8] [] V2 D Q) → (l ≤ gpF g (V 406) r (s : Int) → ∀ v7 v8, RY d 52 37 [vr 405, vi (r : Int), vi ((2 * m : Nat) : Int), vi (cntB g (pN (V 406) r)), vi f, vi l, vi (wr ((s : Int) + 1)), v7, v8] [] V2 D Q) →
            ∀ (c k : Nat) (x : Int), k + c = 256 → 0 ≤ x → (∀ j, j < pN (V 406) r → plN (V 406) r j < k → g j = true → smF g (V 406) r (s : Int) j ≤ x) → (x = 0 ∨ ∃ j, j < pN (V 406) r ∧ g j = true ∧ smF g (V 406) r (s : Int) j = x) →
            RY d 52 54 [vr 405, vi (r : Int), vi ((2 * m : Nat) : Int), vi (cntB g (pN (V 406) r)), vi f, vi l, vi (s : Int), vi x, vi (k : Int)] [] V2 D Q := by
          intro s f l k1 k2 c
          induction c with
          | zero =>
            intro k x hk h0 ha hb
            have ex : x = gpF g (V 406) r (s : Int) := isMx_uni ⟨h0, fun j hj hgj => ha j hj (by have := (plN_is hW hr.2 hj).2.1; omega) hgj, hb⟩ (mxF_is _)
            subst ex
            exact u_52_54 ⟨fun _ => ⟨fun hlt => k1 hlt _ _, fun hge => k2 hge _ _⟩, fun hlt => by omega⟩
          | succ c ih =>
            intro k x hk h0 ha hb
            have e1 : wr ((k : Int) + 1) = ((k + 1 : Nat) : Int) := by rw [wr_id (by omega) (by omega)]; omega
            refine u_52_54 ⟨fun hle => by clear e1; omega, fun _ => ⟨by clear e1; omega, ?_⟩⟩
            rw [nn_toNat, e1]
            clear e1
            refine ⟨fun hz => ?_, fun hnz => ?_⟩
            · refine ih (k + 1) x (by omega) h0 (fun j hj hlt hgj => ?_) hb
              by_cases e : plN (V 406) r j = k
              · have h9 := hM.1 j hj
                rw [e, hz, hgj, if_pos rfl] at h9
                exact absurd h9 (by decide)
              · exact ha j hj (by omega) hgj
            · have hex : ∃ j, j < pN (V 406) r ∧ plN (V 406) r j = k := by
                apply Classical.byContradiction
                intro hno
                exact hnz (hM.2.1 k (by omega) fun j hj e => hno ⟨j, hj, e⟩)
              obtain ⟨j, hj, e⟩ := hex
              have h9 := hM.1 j hj
              rw [e] at h9
              have hgj : g j = true := by
                cases hgb : g j with
                | true => rfl
                | false => rw [hgb, if_neg (by decide)] at h9; exact absurd h9 hnz
              have key := m_alikeBy (V := V2) (D := D) (d := d) (r := r) (i := j) (s := (s : Int)) (g := g) (Q := yback d 52 83 [vr 405, vi (r : Int), vi ((2 * m : Nat) : Int), vi (cntB g (pN (V 406) r)), vi f, vi l, vi (s : Int), vi x, vi (k : Int)] [vi x] Q) hW2 hr2 hM2 (by rw [e62]; exact hj)
              rw [e62, e] at key
              refine key ?_
              show RY d 52 83 _ _ V2 D Q
              refine u_52_83 ?_
              have e1 : wr ((k : Int) + 1) = ((k + 1 : Nat) : Int) := by rw [wr_id (by omega) (by omega)]; omega
              rw [e1]
              clear e1
              refine ih (k + 1) _ (by omega) ?_ (fun i hi hlt hgi => ?_) ?_
              · unfold yr_185
                split <;> omega
              · unfold yr_185
                by_cases e2 : plN (V 406) r i = k
                · have : i = j := by
                    rcases Nat.lt_trichotomy i j with h8 | h8 | h8
                    · have := plN_mono hW hr.2 hj h8; omega
                    · exact h8
                    · have := plN_mono hW hr.2 hi h8; omega
                  subst this
                  split <;> omega
                · have := ha i hi (by omega) hgi
                  split <;> omega
              · unfold yr_185
                by_cases h8 : smF g (V 406) r (s : Int) j < x
                · rw [if_pos h8]; exact hb
                · rw [if_neg h8]; exact Or.inr ⟨j, hj, hgj, rfl⟩
        have sides : ∀ (c k : Nat) (v7 v8 : xV), k + c = 4 → RY d 52 37 [vr 405, vi (r : Int), vi ((2 * m : Nat) : Int), vi (cntB g (pN (V 406) r)), vi (lstB 2000000000 (fun k => gpF g (V 406) r (k : Int)) k).1, vi (lstB 2000000000 (fun k => gpF g (V 406) r (k : Int)) k).2, vi (k : Int), v7, v8] [] V2 D Q := by
          intro c
          induction c with
          | zero =>
            intro k v7 v8 hk
            have hk : k = 4 := by omega
            subst hk
            exact u_52_37 ⟨fun _ => hq, fun h9 => absurd h9 (by decide)⟩
          | succ c ih =>
            intro k v7 v8 hk
            have e1 : wr ((k : Int) + 1) = ((k + 1 : Nat) : Int) := by rw [wr_id (by omega) (by omega)]; omega
            have nxt := fun v7 v8 => ih (k + 1) v7 v8 (by clear e1; omega)
            have el : lstB 2000000000 (fun k => gpF g (V 406) r (k : Int)) (k + 1) = if gpF g (V 406) r (k : Int) < (lstB 2000000000 (fun k => gpF g (V 406) r (k : Int)) k).2 then ((k : Int), gpF g (V 406) r (k : Int)) else lstB 2000000000 (fun k => gpF g (V 406) r (k : Int)) k := rfl
            rw [el, ← e1] at nxt
            refine u_52_37 ⟨fun h9 => by clear e1; omega, fun _ => ⟨fun h9 => by clear e1; omega, fun _ => ?_⟩⟩
            refine most k _ _ (fun hlt v7 v8 => ?_) (fun hge v7 v8 => ?_) 256 0 0 (by clear e1; omega) (Int.le_refl _) (fun j hj hlt => absurd hlt (Nat.not_lt_zero _)) (Or.inl rfl)
            · rw [if_pos hlt] at nxt
              exact nxt v7 v8
            · rw [if_neg (Int.not_lt.mpr hge)] at nxt
              exact nxt v7 v8
        exact sides 4 0 _ _ (by omega)
    · rw [if_neg hr] at h1
      rcases h1 with h1 | h1 | h1
      · omega
      · exact absurd rfl h1.1
      · exact absurd rfl h1.1
  · by_cases hr : 0 ≤ r ∧ r < V 406 3
    · rw [if_pos hr] at h1 h
      have hno : ¬ okRows b n ∧ V1 405 0 = 2 := by
        rcases h1 with h1 | h1 | h1
        · exact absurd h1.1 (by decide)
        · omega
        · exact h1.2
      rw [if_neg hno.1] at h
      exact h V1 hno.2 C1
    · rw [if_neg hr] at h1 h
      have : V1 405 0 = 1 := by
        rcases h1 with h1 | h1 | h1
        · exact h1.2
        · exact absurd rfl h1.1
        · exact absurd rfl h1.1
      exact h V1 this C1
end MASK
