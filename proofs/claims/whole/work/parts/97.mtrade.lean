/-! ===== TRADE: THE MODEL ===== -/
theorem pk_no {E : Nat → Int} {ok : Nat → Bool} {t k : Nat} {z : Int × Int} (h : isPk E ok t (fun o => o < k ∨ o = t) z) (hk : ok k = false) : isPk E ok t (fun o => o < k + 1 ∨ o = t) z := by
  have sub : ∀ o, (o < k + 1 ∨ o = t) → (o < k ∨ o = t) ∨ o = k := fun o ho => by omega
  rcases h with ⟨e1, e2⟩ | ⟨q, e1, e2, e3, e4, e5⟩
  · exact Or.inl ⟨e1, fun o ho => by
      rcases sub o ho with g | g
      · exact e2 o g
      · rw [g]; exact hk⟩
  · refine Or.inr ⟨q, e1, ?_, e3, e4, fun o ho hok => ?_⟩
    · rcases e2 with g | g
      · exact Or.inl (by omega)
      · exact Or.inr g
    · rcases sub o ho with g | g
      · exact e5 o g hok
      · rw [g, hk] at hok; cases hok
theorem pk_yes {E : Nat → Int} {ok : Nat → Bool} {t k : Nat} {z : Int × Int} (h : isPk E ok t (fun o => o < k ∨ o = t) z) (hk : ok k = true) : isPk E ok t (fun o => o < k + 1 ∨ o = t) (if z.1 = -1 ∨ z.2 < E k then ((k : Int), E k) else z) := by
  have sub : ∀ o, (o < k + 1 ∨ o = t) → (o < k ∨ o = t) ∨ o = k := fun o ho => by omega
  have self : better E t k k := by
    right
    refine ⟨rfl, ?_⟩
    by_cases e : k = t
    · exact Or.inl e
    · exact Or.inr ⟨e, Nat.le_refl _⟩
  rcases h with ⟨e1, e2⟩ | ⟨q, e1, e2, e3, e4, e5⟩
  · rw [if_pos (Or.inl e1)]
    refine Or.inr ⟨k, rfl, Or.inl (Nat.lt_succ_self k), hk, rfl, fun o ho hok => ?_⟩
    rcases sub o ho with g | g
    · rw [e2 o g] at hok; cases hok
    · rw [g]; exact self
  · by_cases hlt : z.2 < E k
    · rw [if_pos (Or.inr hlt)]
      rw [e4] at hlt
      refine Or.inr ⟨k, rfl, Or.inl (Nat.lt_succ_self k), hk, rfl, fun o ho hok => ?_⟩
      rcases sub o ho with g | g
      · left
        rcases e5 o g hok with h | h
        · omega
        · omega
      · rw [g]; exact self
    · rw [if_neg (by rintro (g | g); omega; exact hlt g)]
      rw [e4] at hlt
      refine Or.inr ⟨q, e1, ?_, e3, e4, fun o ho hok => ?_⟩
      · rcases e2 with g | g
        · exact Or.inl (by omega)
        · exact Or.inr g
      · by_cases g0 : o < k ∨ o = t
        · exact e5 o g0 hok
        · have g : o = k := by rcases sub o ho with g | g; exact absurd g g0; exact g
          subst g
          by_cases h1 : E o < E q
          · exact Or.inl h1
          · right
            refine ⟨by omega, ?_⟩
            have hot : o ≠ t := fun g => g0 (Or.inr g)
            rcases e2 with g | g
            · exact Or.inr ⟨hot, by omega⟩
            · exact Or.inl g
section MTRADE
variable {d : Nat} {V : xF} {D : yD} {Q : xRes → xF → yD → Prop} {p : Rw} {ls : List Ln}
theorem m_pts (hM : MC V p ls) (hB : Bv V) (hd : 30 ≤ d) {left : Int} (hl : lfP p left) {t : Nat} (ht : (t : Int) < p 4) (h : ∀ V', askF V V' → MC V' p ls → Q (.inl (some (vi (ptI p ls left t)))) V' D) : RY d 247 0 [vr 405, vi (t : Int), vi left, vr 0, vr 0, vr 0, vr 0] [] V D Q := by
  have hW := hM.2.1
  have h4 := hW.2.1
  have ht5 : t < 5 := by omega
  refine u_247_0 ?_
  -- one is looked at
  have see : ∀ (k : Nat) (i5 : Int) (z : Int × Int) (V1 : xF), (k : Int) < p 4 → tb left k = true → askF V V1 → (∀ V2 v6, askF V V2 → okP p ls left t k = true → RY d 247 8 [vr 405, vi (t : Int), vi left, vi (if z.1 = -1 ∨ z.2 < esP p ls t k then ((k : Int), esP p ls t k) else z).1, vi (if z.1 = -1 ∨ z.2 < esP p ls t k then ((k : Int), esP p ls t k) else z).2, vi (wr (i5 + 1)), v6] [] V2 D Q) → (∀ V2 v6, askF V V2 → okP p ls left t k = false → RY d 247 8 [vr 405, vi (t : Int), vi left, vi z.1, vi z.2, vi (wr (i5 + 1)), v6] [] V2 D Q) → yg_143 (k : Int) 2 V1 D ∧ RY d 245 0 [vr 405, vi (t : Int), vi (yr_143 (k : Int) 2 V1 D), vr 0, vr 0, vr 0, vr 0] [] V1 D (yback d 247 56 [vr 405, vi (t : Int), vi left, vi z.1, vi z.2, vi i5, vi (k : Int)] [] Q) := by
    intro k i5 z V1 hk hb hF yes no
    have hM1 := hM.k hF
    have hk5 : k < 5 := by omega
    refine ⟨yg143 hk5 (by omega), ?_⟩
    rw [yr143_2 hk5, hM1.1]
    obtain ⟨o, eo, ho3⟩ := hW.lodN hk (hl.2 k hk5 hb).2
    have hok : okP p ls left t k = !rFR p ls t o := by unfold okP; rw [hb, eo, nn_toNat, Bool.true_and]
    have hes : esP p ls t k = eR p ls t o := by unfold esP; rw [eo, nn_toNat]
    rw [eo]
    refine m_as hM1 hd ht ho3 fun V2 e17 e18 hF2 hM2 => ?_
    show RY d 247 56 _ _ V2 D Q
    refine u_247_56 ?_
    rw [e17, e18, ← hes]
    refine ⟨fun hf => ?_, fun hf => ?_⟩
    · have hf : rFR p ls t o = true := Classical.byContradiction fun g => hf (if_neg g)
      exact no V2 _ (hF.tr hF2) (by rw [hok, hf]; rfl)
    · have hf : rFR p ls t o = false := by
        cases hx : rFR p ls t o
        · rfl
        · rw [hx] at hf; exact absurd hf (by decide)
      have y := fun v6 => yes V2 v6 (hF.tr hF2) (by rw [hok, hf]; rfl)
      refine ⟨fun hm => ?_, fun hm => ⟨fun hlt => ?_, fun hle => ?_⟩⟩
      · rw [if_pos (Or.inl hm)] at y; exact y _
      · rw [if_pos (Or.inr hlt)] at y; exact y _
      · rw [if_neg (by rintro (g | g); exact hm g; exact Int.not_lt.mpr hle g)] at y; exact y _
  have go : ∀ (m k : Nat) (z : Int × Int) (V1 : xF) (v6 : xV), (m : Int) + k = p 4 → askF V V1 → isPk (esP p ls t) (okP p ls left t) t (fun o => o < k ∨ o = t) z → RY d 247 8 [vr 405, vi (t : Int), vi left, vi z.1, vi z.2, vi (k : Int), v6] [] V1 D Q := by
    intro m
    induction m with
    | zero =>
      intro k z V1 v6 hk hF hz
      have hM1 := hM.k hF
      refine u_247_8 ⟨fun _ => ?_, fun hlt => ?_⟩
      · have hq := h V1 hF hM1
        have hu := hz.uni (S' := fun o => o < (p 4).toNat) (fun o => by constructor <;> (intro g; omega)) (pk_is (E := esP p ls t) (ok := okP p ls left t) (t := t) (p 4).toNat)
        unfold ptI at hq
        rw [← hu] at hq
        refine ⟨fun hn => ?_, fun hn => ?_⟩
        · rw [if_neg hn] at hq; exact hq
        · rw [if_pos hn] at hq; exact hq
      · rw [hM1.1] at hlt; omega
    | succ m ih =>
      intro k z V1 v6 hk hF hz
      have hM1 := hM.k hF
      have hk4 : (k : Int) < p 4 := by omega
      have hk5 : k < 5 := by omega
      have e1 : wr ((k : Int) + 1) = ((k + 1 : Nat) : Int) := by rw [wr_id (by omega) (by omega)]; omega
      refine u_247_8 ⟨fun hle => ?_, fun _ => ⟨fun _ => ⟨fun hb => ?_, fun hb => ?_⟩, fun hneg => ?_⟩⟩
      · rw [hM1.1] at hle; clear e1; omega
      · rw [yr198 hl.1 hk5] at hb
        have hb : tb left k = true := Classical.byContradiction fun g => hb (if_neg g)
        refine see k (k : Int) z V1 hk4 hb hF (fun V2 v6 hF2 hok => ?_) (fun V2 v6 hF2 hok => ?_)
        · rw [e1]
          clear e1
          exact ih (k + 1) _ V2 v6 (by omega) hF2 (pk_yes hz hok)
        · rw [e1]
          clear e1
          exact ih (k + 1) _ V2 v6 (by omega) hF2 (pk_no hz hok)
      · rw [yr198 hl.1 hk5] at hb
        have hb : tb left k = false := by
          cases hx : tb left k
          · rfl
          · rw [hx] at hb; exact absurd hb (by decide)
        rw [e1]
        clear e1
        exact ih (k + 1) z V1 _ (by omega) hF (pk_no hz (okP_f hb))
      · clear e1; omega
  -- himself first
  have e0 : wr ((-1 : Int) + 1) = ((0 : Nat) : Int) := by decide
  have fin0 : ∀ (z : Int × Int), isPk (esP p ls t) (okP p ls left t) t (fun o => o < 0 ∨ o = t) z → ∀ V1 v6, askF V V1 → RY d 247 8 [vr 405, vi (t : Int), vi left, vi z.1, vi z.2, vi (wr ((-1 : Int) + 1)), v6] [] V1 D Q := by
    intro z hz V1 v6 hF
    rw [e0]
    exact go (p 4).toNat 0 z V1 v6 (by clear e0; omega) hF hz
  refine u_247_8 ⟨fun hle => ?_, fun _ => ⟨fun h0 => absurd h0 (by decide), fun _ => ⟨fun hb => ?_, fun hb => ?_⟩⟩⟩
  · rw [hM.1] at hle; clear e0; omega
  · rw [yr198 hl.1 ht5] at hb
    have hb : tb left t = true := Classical.byContradiction fun g => hb (if_neg g)
    refine see t (-1) (-1, 0) V ht hb (askF.rf hB) (fun V2 v6 hF2 hok => ?_) (fun V2 v6 hF2 hok => ?_)
    · rw [if_pos (Or.inl rfl)]
      refine fin0 ((t : Int), esP p ls t t) (Or.inr ⟨t, rfl, Or.inr rfl, hok, rfl, fun o ho hoo => ?_⟩) V2 v6 hF2
      have : o = t := by rcases ho with g | g; exact absurd g (Nat.not_lt_zero _); exact g
      rw [this]
      exact Or.inr ⟨rfl, Or.inl rfl⟩
    · refine fin0 (-1, 0) (Or.inl ⟨rfl, fun o ho => ?_⟩) V2 v6 hF2
      have : o = t := by rcases ho with g | g; exact absurd g (Nat.not_lt_zero _); exact g
      rw [this]; exact hok
  · rw [yr198 hl.1 ht5] at hb
    have hb : tb left t = false := by
      cases hx : tb left t
      · rfl
      · rw [hx] at hb; exact absurd hb (by decide)
    refine fin0 (-1, 0) (Or.inl ⟨rfl, fun o ho => ?_⟩) V _ (askF.rf hB)
    have : o = t := by rcases ho with g | g; exact absurd g (Nat.not_lt_zero _); exact g
    rw [this]; exact okP_f hb
theorem m_ring (hM : MC V p ls) (hB : Bv V) (hd : 30 ≤ d) {left : Int} (hl : lfP p left) {t : Nat} (ht : (t : Int) < p 4) (hb : tb left t = true) (h : ∀ V', askF V V' → MC V' p ls → Q (.inl (some (vi (if rgB p ls left t = true then 1 else 0)))) V' D) : RY d 246 0 [vr 405, vi (t : Int), vi left, vr 0, vr 0] [] V D Q := by
  have hW := hM.2.1
  have h4 := hW.2.1
  have ht5 : t < 5 := by omega
  obtain ⟨f, hf⟩ : ∃ f, f = ptN p ls left := ⟨_, rfl⟩
  have hin := ptN_in (ls := ls) hl
  rw [← hf] at hin
  have hpt : ∀ j, (j < 5 ∧ tb left j = true) → ptI p ls left j = ((f j : Nat) : Int) := by
    intro j hj
    obtain ⟨q, e, _, _⟩ := ptI_q (ls := ls) hl hj.1 hj.2
    rw [hf]
    unfold ptN
    rw [e, nn_toNat]
  refine u_246_0 (m_pts hM hB hd hl ht fun V1 hF1 hM1 => ?_)
  show RY d 246 6 _ _ V1 D Q
  refine u_246_6 ?_
  rw [hpt t ⟨ht5, hb⟩]
  have go : ∀ (m k : Nat) (V2 : xF), m + k = 5 → askF V V2 → (∀ j, 1 ≤ j → j ≤ k → itf f j t ≠ t) → RY d 246 10 [vr 405, vi (t : Int), vi left, vi ((itf f (k + 1) t : Nat) : Int), vi (k : Int)] [] V2 D Q := by
    intro m k V2 hk hF hno
    have hM2 := hM.k hF
    have yes : itf f (k + 1) t = t → Q (.inl (some (vi 1))) V2 D := by
      intro he
      have hq := h V2 hF hM2
      rw [if_pos (rgB_iff.mpr (by rw [← hf]; exact ⟨k + 1, by omega, he⟩))] at hq
      exact hq
    induction m generalizing k V2 with
    | zero =>
      have hk : k = 5 := by omega
      subst hk
      refine u_246_10 ⟨fun _ => ⟨fun hne => ?_, fun he => yes (by omega)⟩, fun hlt => absurd hlt (by decide)⟩
      have hr : rgB p ls left t = false := by
        cases hx : rgB p ls left t
        · rfl
        · have := rgB_iff.mp hx
          rw [← hf] at this
          obtain ⟨j, j1, j2, j3⟩ := rg_n (n := 5) hin (fun s hs => hs.1) ⟨ht5, hb⟩ this
          exact absurd j3 (hno j j1 j2)
      have hq := h V2 hF hM2
      rw [hr] at hq
      exact hq
    | succ m ih =>
      have hi := itf_in (L := fun t => t < 5 ∧ tb left t = true) hin ⟨ht5, hb⟩ (k + 1)
      have e1 : wr ((k : Int) + 1) = ((k + 1 : Nat) : Int) := by rw [wr_id (by omega) (by omega)]; omega
      refine u_246_10 ⟨fun hle => by clear e1; omega, fun _ => ⟨fun he => ⟨fun hne => absurd he hne, fun _ => yes (by clear e1; omega)⟩, fun hne => ?_⟩⟩
      refine m_pts hM2 hF.2.2 hd hl (hl.2 _ hi.1 hi.2).1 fun V3 hF3 hM3 => ?_
      show RY d 246 27 _ _ V3 D Q
      refine u_246_27 ?_
      rw [hpt _ hi, e1]
      clear e1
      have hF23 := hF.tr hF3
      refine ih (k + 1) V3 (by omega) hF23 (fun j j1 j2 => ?_) (hM.k hF23) (fun he => ?_)
      · by_cases e : j = k + 1
        · rw [e]; intro g; exact hne (by rw [g])
        · exact hno j j1 (by omega)
      · have hq := h V3 hF23 (hM.k hF23)
        rw [if_pos (rgB_iff.mpr (by rw [← hf]; exact ⟨k + 1 + 1, by omega, he⟩))] at hq
        exact hq
  exact go 5 0 V1 rfl hF1 (fun j j1 j2 => by omega)
theorem m_trade (hM : MC V p ls) (hB : Bv V) (hd : 30 ≤ d) {t : Nat} (ht : (t : Int) < p 4) (h : ∀ V', askF V V' → MC V' p ls → Q (.inl (some (vi (tradeF p ls t)))) V' D) : RY d 145 0 [vr 405, vi (t : Int), vr 0, vr 0, vr 0] [] V D Q := by
  obtain ⟨hE, hW, hT, hw⟩ := id hM
  have h4 := hW.2.1
  have ht5 : t < 5 := by omega
  refine u_145_0 ⟨yg143 ht5 (by omega), ?_⟩
  rw [yr143_2 ht5, hE]
  refine ⟨fun hn => ?_, fun hn => ?_⟩
  · -- the rounds
    have rounds : ∀ (m r : Nat) (V1 : xF) (i3 : Int) (v4 : xV), (m : Int) + r = p 4 → askF V V1 → tb (lvF p ls r) t = true → RY d 145 52 [vr 405, vi (t : Int), vi (lvF p ls r), vi i3, v4] [] V1 D Q := by
      intro m
      induction m with
      | zero =>
        intro r V1 i3 v4 hr hF hb
        have := lv_ltN hW ht5 hb
        omega
      | succ m ih =>
        intro r V1 i3 v4 hr hF hb
        have hl := lfP.lv (ls := ls) hW r
        have hM1 := hM.k hF
        refine u_145_52 (m_ring hM1 hF.2.2 hd hl ht hb fun V2 hF2 hM2 => ?_)
        show RY d 145 58 _ _ V2 D Q
        have F2 := hF.tr hF2
        refine u_145_58 ⟨fun hy => ?_, fun hn => ?_⟩
        · have hy : rgB p ls (lvF p ls r) t = true := Classical.byContradiction fun g => hy (if_neg g)
          refine m_pts hM2 F2.2.2 hd hl ht fun V3 hF3 hM3 => ?_
          show RY d 145 128 _ _ V3 D Q
          refine u_145_128 ?_
          rw [← trade_at hW ht5 hb hy]
          exact h V3 (F2.tr hF3) hM3
        · have hn : rgB p ls (lvF p ls r) t = false := by
            cases hx : rgB p ls (lvF p ls r) t
            · rfl
            · rw [hx] at hn; exact absurd hn (by decide)
          have hb' : tb (lvF p ls (r + 1)) t = true := by
            show tb (rdF p ls (lvF p ls r)) t = true
            rw [tb_rd ht5, hb, hn]; rfl
          have inner : ∀ (m' k : Nat) (V3 : xF), (m' : Int) + k = p 4 → askF V V3 → RY d 145 66 [vr 405, vi (t : Int), vi (lvF p ls r), vi (bitsT (fun j => tb (lvF p ls r) j && rgB p ls (lvF p ls r) j) k), vi (k : Int)] [] V3 D Q := by
            intro m'
            induction m' with
            | zero =>
              intro k V3 hk hF3
              have hM3 := hM.k hF3
              refine u_145_66 ⟨fun _ => ?_, fun hlt => ?_⟩
              · have o2 := tb_dif (x := lvF p ls r) (y := bitsT (fun j => tb (lvF p ls r) j && rgB p ls (lvF p ls r) j) k) hl.1 (bitsT_lt (by omega))
                have e2 : xand (lvF p ls r) (xxor (bitsT (fun j => tb (lvF p ls r) j && rgB p ls (lvF p ls r) j) k) (-1)) = lvF p ls (r + 1) := by
                  refine tb_ext o2.1 rd_b fun j hj => ?_
                  rw [o2.2 j hj, tb_bitsT hj (by omega)]
                  show _ = tb (rdF p ls (lvF p ls r)) j
                  rw [tb_rd hj]
                  cases hx : tb (lvF p ls r) j
                  · rfl
                  · have := (hl.2 j hj hx).1
                    rw [decide_eq_true (by omega)]
                    cases rgB p ls (lvF p ls r) j <;> rfl
                rw [e2]
                exact ih (r + 1) V3 _ _ (by omega) hF3 hb'
              · rw [hM3.1] at hlt; omega
            | succ m' ih' =>
              intro k V3 hk hF3
              have hM3 := hM.k hF3
              have hk4 : (k : Int) < p 4 := by omega
              have hk5 : k < 5 := by omega
              have e1 : wr ((k : Int) + 1) = ((k + 1 : Nat) : Int) := by rw [wr_id (by omega) (by omega)]; omega
              have hu : bitsT (fun j => tb (lvF p ls r) j && rgB p ls (lvF p ls r) j) (k + 1) = if (tb (lvF p ls r) k && rgB p ls (lvF p ls r) k) = true then xor_ (bitsT (fun j => tb (lvF p ls r) j && rgB p ls (lvF p ls r) j) k) (xshl 1 (k : Int)) else bitsT (fun j => tb (lvF p ls r) j && rgB p ls (lvF p ls r) j) k := rfl
              have no : ∀ V4, askF V V4 → ¬ (tb (lvF p ls r) k && rgB p ls (lvF p ls r) k) = true → RY d 145 66 [vr 405, vi (t : Int), vi (lvF p ls r), vi (xor_ (bitsT (fun j => tb (lvF p ls r) j && rgB p ls (lvF p ls r) j) k) 0), vi (wr ((k : Int) + 1))] [] V4 D Q := by
                intro V4 hF4 hn
                have := ih' (k + 1) V4 (by clear e1; omega) hF4
                rw [hu, if_neg hn] at this
                rw [or_0 (by clear e1; omega), e1]
                exact this
              refine u_145_66 ⟨fun hle => ?_, fun _ => ⟨fun hz => ?_, fun hz => ?_⟩⟩
              · rw [hM3.1] at hle; clear e1; omega
              · rw [yr198 hl.1 hk5] at hz
                refine no V3 hF3 fun g => ?_
                rw [Bool.and_eq_true] at g
                rw [if_pos g.1] at hz
                exact absurd hz (by decide)
              · rw [yr198 hl.1 hk5] at hz
                have hz : tb (lvF p ls r) k = true := Classical.byContradiction fun g => hz (if_neg g)
                refine m_ring hM3 hF3.2.2 hd hl hk4 hz fun V4 hF4 hM4 => ?_
                show RY d 145 94 _ _ V4 D Q
                have F4 := hF3.tr hF4
                refine u_145_94 ⟨fun g0 => ?_, fun g0 => ?_⟩
                · refine no V4 F4 fun g => ?_
                  rw [Bool.and_eq_true] at g
                  rw [if_pos g.2] at g0
                  exact absurd g0 (by decide)
                · have g0 : rgB p ls (lvF p ls r) k = true := Classical.byContradiction fun g => g0 (if_neg g)
                  have := ih' (k + 1) V4 (by clear e1; omega) F4
                  rw [hu, if_pos (by rw [hz, g0]; rfl)] at this
                  rw [e1]
                  exact this
          exact inner (p 4).toNat 0 V2 (by omega) F2
    have start : ∀ (m k : Nat) , (m : Int) + k = p 4 → RY d 145 16 [vr 405, vi (t : Int), vi (bitsT (fun t => decide (tL_ p t ≠ -1)) k), vi (k : Int), vr 0] [] V D Q := by
      intro m
      induction m with
      | zero =>
        intro k hk
        refine u_145_16 ⟨fun _ => ?_, fun hlt => ?_⟩
        · have e : bitsT (fun t => decide (tL_ p t ≠ -1)) k = lvF p ls 0 := by rw [show k = (p 4).toNat by omega]; rfl
          rw [e]
          refine rounds (p 4).toNat 0 V _ _ (by omega) (askF.rf hB) ?_
          show tb (lodB p) t = true
          unfold lodB
          rw [tb_bitsT ht5 (by omega), decide_eq_true (by omega), decide_eq_true hn]
          rfl
        · rw [hE] at hlt; omega
      | succ m ih =>
        intro k hk
        have hk5 : k < 5 := by omega
        have e1 : wr ((k : Int) + 1) = ((k + 1 : Nat) : Int) := by rw [wr_id (by omega) (by omega)]; omega
        have := ih (k + 1) (by clear e1; omega)
        rw [show bitsT (fun t => decide (tL_ p t ≠ -1)) (k + 1) = if decide (tL_ p k ≠ -1) = true then xor_ (bitsT (fun t => decide (tL_ p t ≠ -1)) k) (xshl 1 (k : Int)) else bitsT (fun t => decide (tL_ p t ≠ -1)) k from rfl] at this
        refine u_145_16 ⟨fun hle => ?_, fun _ => ⟨yg143 hk5 (by clear e1; omega), ?_⟩⟩
        · rw [hE] at hle; clear e1; omega
        · rw [yr143_2 hk5, hE, e1]
          refine ⟨fun hn => ?_, fun hn => ?_⟩
          · rw [if_pos (decide_eq_true hn)] at this; exact this
          · rw [if_neg (by rw [decide_eq_false (fun g => g hn)]; decide)] at this
            rw [or_0 (by clear e1; omega)]
            exact this
    exact start (p 4).toNat 0 (by omega)
  · have := h V (askF.rf hB) hM
    rw [trade_none hW ht5 hn] at this
    exact this
end MTRADE
