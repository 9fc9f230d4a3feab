/-! ===== CLAP ===== -/
/-- an echo is written down -/
def lgR (q : Rw) (t l : Int) : Rw := fun k => if k = 91 then q 13 else if k = 92 then q 5 else if k = 93 then t else if k = 94 then l else if 95 ≤ k ∧ k < 331 then q (k - 4) else if k = 14 then (if 60 < q 14 + 1 then 60 else q 14 + 1) else q k
noncomputable def lgs (f : Nat → Int) : Nat → Rw → Rw
  | 0, q => q
  | n + 1, q => lgs f n (if 0 < f n then lgR q n (f n) else q)
theorem lgs_hi {f : Nat → Int} {n : Nat} (q : Rw) : ∀ (k : Nat), (∀ t, n ≤ t → f t ≤ 0) → lgs f (n + k) q = lgs f n q
  | 0, _ => rfl
  | k + 1, h => by
    show lgs f (n + k) (if 0 < f (n + k) then lgR q _ _ else q) = _
    rw [if_neg (by have := h (n + k) (by omega); omega)]
    exact lgs_hi q k h
theorem lgR_k {q : Rw} {t l : Int} {k : Nat} (h14 : k ≠ 14) (hk : k < 91 ∨ 331 ≤ k) : lgR q t l k = q k := by
  unfold lgR
  rw [if_neg (by omega), if_neg (by omega), if_neg (by omega), if_neg (by omega), if_neg (by omega), if_neg h14]
theorem lgs_k {f : Nat → Int} {k : Nat} (h14 : k ≠ 14) (hk : k < 91 ∨ 331 ≤ k) : ∀ (n : Nat) (q : Rw), lgs f n q k = q k
  | 0, _ => rfl
  | n + 1, q => by
    unfold lgs
    rw [lgs_k h14 hk n]
    split
    · exact lgR_k h14 hk
    · rfl
theorem lgs_14 {f : Nat → Int} : ∀ (n : Nat) (q : Rw), 0 ≤ q 14 ∧ q 14 ≤ 60 → 0 ≤ lgs f n q 14 ∧ lgs f n q 14 ≤ 60
  | 0, q, h => h
  | n + 1, q, h => by
    unfold lgs
    refine lgs_14 n _ ?_
    split
    · show 0 ≤ (if 60 < q 14 + 1 then (60 : Int) else q 14 + 1) ∧ (if 60 < q 14 + 1 then (60 : Int) else q 14 + 1) ≤ 60
      split <;> omega
    · exact h
noncomputable def clR (p : Rw) (f : Nat → Int) : Rw := rup (lgs f 64 p) 13 (if 9999 < p 13 + 1 then 9999 else p 13 + 1)
noncomputable def aClap (p : Rw) : aAct := sIf (p 5 = -1) (.inr 1) (.inl (cntT (hearT p (p 5).toNat (p 6) (p 7)) 64, clR p (hearT p (p 5).toNat (p 6) (p 7))))
section CLAP
variable {d : Nat} {V : xF} {D : yD} {Q : xRes → xF → yD → Prop} {p : Rw}
theorem st_log {V' : xF} {s : Nat} {q : Rw} (hS : St V s p) (h1 : ∀ a, a ≠ s + 9 → a ≠ s + 10 → V' a = V a) (h2 : V' (s + 9) 0 = q 13) (h3 : V' (s + 9) 1 = q 14) (h4 : ∀ k, k < 240 → V' (s + 10) k = q (91 + k)) (h5 : ∀ k, k ≠ 13 → k ≠ 14 → (k < 91 ∨ 331 ≤ k) → q k = p k) : St V' s q := by
  obtain ⟨g0, g1, g2, g3, g4, g5, g6, g7, g8, g9, g10, g12, g13, g14, g15, g16, g17, g18, g19, g20, g21, g22⟩ := hS
  unfold St
  rw [h1 s (by omega) (by omega), h1 (s + 1) (by omega) (by omega), h1 (s + 2) (by omega) (by omega), h1 (s + 3) (by omega) (by omega), h1 (s + 4) (by omega) (by omega), h1 (s + 5) (by omega) (by omega), h1 (s + 6) (by omega) (by omega), h1 (s + 7) (by omega) (by omega), h1 (s + 8) (by omega) (by omega)]
  unfold rW rD rS rR dB_ dO_ tP_ tW_ tL_ at *
  rw [h5 3 (by omega) (by omega) (by omega), h5 4 (by omega) (by omega) (by omega), h5 0 (by omega) (by omega) (by omega), h5 5 (by omega) (by omega) (by omega), h5 6 (by omega) (by omega) (by omega), h5 7 (by omega) (by omega) (by omega), h5 8 (by omega) (by omega) (by omega), h5 9 (by omega) (by omega) (by omega), h5 10 (by omega) (by omega) (by omega), h5 11 (by omega) (by omega) (by omega), h5 12 (by omega) (by omega) (by omega), h5 15 (by omega) (by omega) (by omega)]
  refine ⟨g0, fun r' h => ?_, fun r' h => ?_, fun r' w' h h' => ?_, fun r' h => ?_, fun r' h => ?_, g6, fun t h => ?_, fun t h => ?_, fun t h => ?_, g10, g12, g13, g14, g15, g16, g17, g18, g19, h2, h3, h4⟩
  · rw [h5 _ (by omega) (by omega) (by omega)]; exact g1 r' h
  · rw [h5 _ (by omega) (by omega) (by omega)]; exact g2 r' h
  · rw [h5 _ (by omega) (by omega) (by omega)]; exact g3 r' w' h h'
  · rw [h5 _ (by omega) (by omega) (by omega)]; exact g4 r' h
  · rw [h5 _ (by omega) (by omega) (by omega), h5 _ (by omega) (by omega) (by omega), h5 _ (by omega) (by omega) (by omega), h5 _ (by omega) (by omega) (by omega), h5 _ (by omega) (by omega) (by omega)]; exact g5 r' h
  · rw [h5 _ (by omega) (by omega) (by omega)]; exact g7 t h
  · rw [h5 _ (by omega) (by omega) (by omega)]; exact g8 t h
  · rw [h5 _ (by omega) (by omega) (by omega)]; exact g9 t h
theorem c_note {f : Nat → Int} (hS : St V 81 p) (hW : WF p) (hf : ∀ t, t < 48 → V 253 t = f t) (hz : ∀ t, 48 ≤ t → f t ≤ 0) (h : ∀ V', St V' 81 (clR p f) → Fr [90, 91] V V' → Q (.inl (some (vi (cntT f 48)))) V' D) : RY d 261 0 [vr 90, vi (p 5), vr 253, vr 0, vr 0] [] V D Q := by
  have h14 : 0 ≤ p 14 ∧ p 14 ≤ 60 := hW.2.2.2.2.2.2.2.2.1
  have h13 : 0 ≤ p 13 ∧ p 13 ≤ 9999 := hW.2.2.2.2.2.2.2.1
  have g20 : V 90 0 = p 13 := hS.2.2.2.2.2.2.2.2.2.2.2.2.2.2.2.2.2.2.2.1
  have g21 : V 90 1 = p 14 := hS.2.2.2.2.2.2.2.2.2.2.2.2.2.2.2.2.2.2.2.2.1
  have g22 : ∀ k, k < 240 → V 91 k = p (91 + k) := hS.2.2.2.2.2.2.2.2.2.2.2.2.2.2.2.2.2.2.2.2.2
  refine u_261_0 ?_
  have hc48 := cntT_b f 48
  have main : ∀ (n : Nat) (q : Rw) (V1 : xF) (c : Int), n ≤ 48 → c = cntT f 48 - cntT f n → 0 ≤ c → lgs f n q = lgs f 48 p → (∀ k, k < 240 → V1 91 k = q (91 + k)) → q 13 = p 13 → q 5 = p 5 → q 14 = (if 60 < p 14 + c then 60 else p 14 + c) → Fr [91] V V1 → RY d 261 6 [vr 90, vi (p 5), vr 253, vi c, vi ((n : Int) - 1)] [] V1 D Q := by
    intro n
    induction n with
    | zero =>
      intro q V1 c hn hc hc0 hl hk q13 q5 q14 F
      have hc' : c = cntT f 48 := by rw [hc]; show _ - 0 = _; omega
      refine u_261_6 ⟨fun _ => ?_, fun h5 => by omega⟩
      have eq : q = lgs f 48 p := hl
      have e64 : lgs f 64 p = q := by rw [eq]; exact lgs_hi p 16 hz
      rintro V2 rfl V3 rfl
      rw [F.at_ 90 (by decide), g21, up2_ni (by decide), F.at_ 90 (by decide), g20, hc', wr_id (x := p 14 + cntT f 48) (by omega) (by omega), wr_id (x := p 13 + 1) (by omega) (by omega)]
      refine h _ ?_ ((F.sub (by decide)).tr ((Fr.up (by decide)).tr (Fr.up (by decide))))
      refine st_log (V := V) hS (fun a h1 h2 => ?_) ?_ ?_ (fun k hk2 => ?_) (fun k h1 h2 h3 => ?_)
      · rw [up2_na h1, up2_na h1]; exact F.at_ a (by simpa using h2)
      · show up2 _ 90 0 _ 90 0 = _
        rw [up2_at]
        unfold clR yr_291
        rw [rup_a]
      · show up2 _ 90 0 _ 90 1 = _
        rw [up2_ni (by decide), up2_at]
        unfold clR
        rw [rup_n (by decide), e64, q14, hc']
        rfl
      · show up2 _ 90 0 _ 91 k = _
        rw [up2_na (by decide), up2_na (by decide), hk k hk2]
        unfold clR
        rw [rup_n (by omega), e64]
      · unfold clR
        rw [rup_n h1]
        exact lgs_k h2 h3 64 p
    | succ n ih =>
      intro q V1 c hn hc hc0 hl hk q13 q5 q14 F
      have e1 : cntT f (n + 1) = cntT f n + (if 0 < f n then 1 else 0) := rfl
      have hcn := cntT_b f n
      have el : lgs f (n + 1) q = lgs f n (if 0 < f n then lgR q n (f n) else q) := rfl
      rw [show ((n + 1 : Nat) : Int) - 1 = (n : Int) by omega]
      refine u_261_6 ⟨fun h5 => by omega, fun _ => ⟨by omega, ?_⟩⟩
      rw [nn_toNat, F.at_ 253 (by decide), hf n (by omega), wr_id (x := (n : Int) + (-1)) (by omega) (by omega), show (n : Int) + (-1) = (n : Int) - 1 by omega]
      refine ⟨fun h5 => ?_, fun h5 => ?_⟩
      · rw [if_neg (by omega)] at e1 el
        exact ih q V1 c (by omega) (by omega) hc0 (by rw [← el]; exact hl) hk q13 q5 q14 F
      · rw [if_pos h5] at e1 el
        rintro V3 rfl V4 rfl V5 rfl V6 rfl
        refine ⟨by omega, ?_⟩
        rintro V7 rfl
        have x90 : (xcpy V1 91 0 91 4 236) 90 0 = p 13 := by rw [xcpy_na (by decide), F.at_ 90 (by decide)]; exact g20
        rw [x90, up2_na (by decide), up2_na (by decide), up2_na (by decide), xcpy_na (by decide), F.at_ 253 (by decide), hf n (by omega), wr_id (x := c + 1) (by omega) (by omega)]
        refine ih (lgR q n (f n)) _ (c + 1) (by omega) (by omega) (by omega) (by rw [← el]; exact hl) (fun k hk2 => ?_) (by rw [lgR_k (by omega) (by omega)]; exact q13) (by rw [lgR_k (by omega) (by omega)]; exact q5) ?_ ?_
        · rw [up2_a]
          unfold lgR
          by_cases k3 : k = 3
          · subst k3; rw [if_pos rfl, if_neg (by omega), if_neg (by omega), if_neg (by omega), if_pos rfl]
          · rw [if_neg k3, up2_a]
            by_cases k2 : k = 2
            · subst k2; rw [if_pos rfl, if_neg (by omega), if_neg (by omega), if_pos rfl]
            · rw [if_neg k2, up2_a]
              by_cases k1 : k = 1
              · subst k1; rw [if_pos rfl, if_neg (by omega), if_pos rfl, q5]
              · rw [if_neg k1, up2_a]
                by_cases k0 : k = 0
                · subst k0; rw [if_pos rfl, if_pos rfl, q13]
                · rw [if_neg k0, xcpy_a, if_pos (by omega), if_neg (by omega), if_neg (by omega), if_neg (by omega), if_neg (by omega), if_pos (by omega), show 0 + (k - 4) = k - 4 by omega, hk (k - 4) (by omega), show 91 + k - 4 = 91 + (k - 4) by omega]
        · show (if 60 < q 14 + 1 then (60 : Int) else q 14 + 1) = _
          rw [q14]
          (repeat' split) <;> omega
        · refine F.tr (Fr.tr (V' := xcpy V1 91 0 91 4 236) (fun a ha => xcpy_na (by simpa using ha)) ?_)
          exact (((Fr.up (by decide)).tr (Fr.up (by decide))).tr (Fr.up (by decide))).tr (Fr.up (by decide))
  exact main 48 p V 0 (by omega) (by omega) (by omega) rfl g22 rfl rfl (by rw [if_neg (by omega)]; omega) Fr.rf
theorem ca_clap (hB : V 2 = xback5) (hP : PNx V D) (hS : St V 81 p) (hW : WF p) (h : ∀ V1 D1, EndC (aClap p) V D V1 D1 → Q (cRes (aR (aClap p))) V1 D1) : RY d 167 0 [vr 70] [] V D Q := by
  have e12 : V 81 12 = p 5 := hS.2.2.2.2.2.2.2.2.2.2.2.1
  unfold aClap at h
  refine u_167_0 ?_
  rw [e12]
  refine ⟨fun h5 => ?_, fun h5 => by rw [sIf_y h5] at h; exact h V _ ⟨Cor.rf, CorD.exc⟩⟩
  rw [sIf_n h5] at h
  have hs := hW.seat h5
  obtain ⟨r5, er⟩ := hW.r5 hs.1
  refine c_act hP (fun V' nx a hn ha h7' h8' hR => u_167_23 ?_)
  have S' := hR.st hn hS
  have f12 : V' 81 12 = p 5 := S'.2.2.2.2.2.2.2.2.2.2.2.1
  have f13 : V' 81 13 = (if p 5 = -1 then -1 else 16 * p 6 + p 7) := S'.2.2.2.2.2.2.2.2.2.2.2.2.1
  rw [f12, f13, if_neg h5, ← er]
  refine c_listen_81 S' (by rw [hR.at_ (by omega) (by omega) hn]; exact hB) hW (by have := hs.1; omega) ⟨hs.2.1, hs.2.2⟩ (Or.inl rfl) ?_
  intro V2 hV2
  have hok : okPl p (p 5).toNat (p 6) (p 7) := ⟨hW, (by have := hs.1; omega), hs.2.1, hs.2.2⟩
  have S2 : St V2 81 p := hV2.cor.st S'
  have g12 : V2 81 12 = p 5 := S2.2.2.2.2.2.2.2.2.2.2.2.1
  refine u_167_52 ?_
  rw [g12]
  have e48 : cntT (hearT p (p 5).toNat (p 6) (p 7)) 64 = cntT (hearT p (p 5).toNat (p 6) (p 7)) 48 := cntT_hi 16 (fun t ht => by rw [hear_hi hok ht]; exact Int.le_refl _)
  refine c_note S2 hW hV2.1 (fun t ht => by rw [hear_hi hok ht]; exact Int.le_refl _) (fun V3 S3 F3 => u_167_73 ?_)
  rw [← e48]
  exact h V3 _ (ActC.of (S := [254, 255, 253, 90, 91]) hn ha h7' h8' hR ((hV2.2.sub (by decide)).tr (F3.sub (by decide))) (by decide) S3 CorD.rf)
theorem m_logs {q : Rw} {t l : Int} (hq : ∀ k, k < 331 → V 406 k = q k) (h14 : 0 ≤ q 14 ∧ q 14 ≤ 60) (h : ∀ V', (∀ k, k < 331 → V' 406 k = lgR q t l k) → (∀ k, 331 ≤ k → V' 406 k = V 406 k) → Fr [406] V V' → Q (.inl none) V' D) : RY d 168 0 [vr 405, vi t, vi l, vr 0] [] V D Q := by
  refine u_168_0 ?_
  have main : ∀ (c n : Nat) (V1 : xF), n = c + 3 → n ≤ 239 → (∀ k, k < 331 → V1 406 k = if 91 + n < k then q (k - 4) else q k) → (∀ k, 331 ≤ k → V1 406 k = V 406 k) → Fr [406] V V1 → RY d 168 4 [vr 405, vi t, vi l, vi (n : Int)] [] V1 D Q := by
    intro c
    induction c with
    | zero =>
      intro n V1 hn hn2 hk hk2 F
      refine u_168_4 ⟨fun _ => ?_, fun h5 => by omega⟩
      rintro V2 rfl V3 rfl V4 rfl V5 rfl V6 rfl
      have e13 : V1 406 13 = q 13 := by rw [hk 13 (by omega), if_neg (by omega)]
      have e5 : (up2 V1 406 91 (q 13)) 406 5 = q 5 := by rw [up2_ni (by decide), hk 5 (by omega), if_neg (by omega)]
      rw [e13, e5]
      have e14 : (up2 (up2 (up2 (up2 V1 406 91 (q 13)) 406 92 (q 5)) 406 93 t) 406 94 l) 406 14 = q 14 := by
        rw [up2_ni (by decide), up2_ni (by decide), up2_ni (by decide), up2_ni (by decide), hk 14 (by omega), if_neg (by omega)]
      rw [e14, wr_id (x := q 14 + 1) (by omega) (by omega)]
      refine h _ (fun k hk3 => ?_) (fun k hk3 => ?_) (F.tr (((((Fr.up (by decide)).tr (Fr.up (by decide))).tr (Fr.up (by decide))).tr (Fr.up (by decide))).tr (Fr.up (by decide))))
      · rw [up2_a]
        unfold lgR
        by_cases k14 : k = 14
        · subst k14
          rw [if_pos rfl, if_neg (by omega), if_neg (by omega), if_neg (by omega), if_neg (by omega), if_neg (by omega), if_pos rfl]
          unfold yr_169
          (repeat' split) <;> omega
        · rw [if_neg k14, up2_a]
          by_cases k3 : k = 94
          · subst k3; rw [if_pos rfl, if_neg (by omega), if_neg (by omega), if_neg (by omega), if_pos rfl]
          · rw [if_neg k3, up2_a]
            by_cases k2 : k = 93
            · subst k2; rw [if_pos rfl, if_neg (by omega), if_neg (by omega), if_pos rfl]
            · rw [if_neg k2, up2_a]
              by_cases k1 : k = 92
              · subst k1; rw [if_pos rfl, if_neg (by omega), if_pos rfl]
              · rw [if_neg k1, up2_a]
                by_cases k0 : k = 91
                · subst k0; rw [if_pos rfl, if_pos rfl]
                · rw [if_neg k0, hk k hk3, if_neg k0, if_neg k1, if_neg k2, if_neg k3]
                  by_cases h5 : 95 ≤ k ∧ k < 331
                  · rw [if_pos h5, if_pos (by omega)]
                  · rw [if_neg h5, if_neg (by omega), if_neg k14]
      · rw [up2_ni (by omega), up2_ni (by omega), up2_ni (by omega), up2_ni (by omega), up2_ni (by omega)]
        exact hk2 k hk3
    | succ c ih =>
      intro n V1 hn hn2 hk hk2 F
      refine u_168_4 ⟨fun h5 => by omega, fun _ => ?_⟩
      rw [wr_id (x := 91 + (n : Int)) (by omega) (by omega), wr_id (x := 91 + (n : Int) - 4) (by omega) (by omega), wr_id (x := (n : Int) + (-1)) (by omega) (by omega), show (91 + (n : Int) - 4).toNat = 91 + n - 4 by omega, show (91 + (n : Int)).toNat = 91 + n by omega, show (n : Int) + (-1) = ((n - 1 : Nat) : Int) by omega]
      refine ⟨by omega, by omega, ?_⟩
      rintro V2 rfl
      have ee : V1 406 (91 + n - 4) = q (91 + n - 4) := by rw [hk _ (by omega), if_neg (by omega)]
      rw [ee]
      refine ih (n - 1) _ (by omega) (by omega) (fun k hk3 => ?_) (fun k hk3 => by rw [up2_ni (by omega)]; exact hk2 k hk3) (F.tr (Fr.up (by decide)))
      rw [up2_a]
      by_cases e : k = 91 + n
      · rw [if_pos e, if_pos (by omega), e]
      · rw [if_neg e, hk k hk3]
        by_cases h7 : 91 + n < k
        · rw [if_pos h7, if_pos (by omega)]
        · rw [if_neg h7, if_neg (by omega)]
  exact main 236 239 V (by omega) (by omega) (fun k hk => by rw [hq k hk, if_neg (by omega)]) (fun _ _ => rfl) Fr.rf
theorem ma_clap {a : Nat} (h6 : V 405 6 = (a : Int)) (ha : a ≤ 12) (hW : WF (V 406)) (h : ∀ V2, V2 405 0 = mCd 1 (aR (aClap (V 406))) → EndM (aClap (V 406)) a V V2 → Q (.inl (some (vi (mVal (aR (aClap (V 406))))))) V2 D) : RY d 32 0 [vr 405, vr 0, vr 0] [] V D Q := by
  unfold aClap at h
  refine u_32_0 ⟨fun h5 => ?_, fun h5 => ?_⟩
  · rw [sIf_n h5] at h
    rintro V1 hV1
    have t0 : V1 405 0 = 0 := by rw [hV1]; exact v405.1
    have e6 : V1 406 = V 406 := by rw [hV1]; exact v405.2.1
    have e5 : V1 405 6 = (a : Int) := by rw [hV1, up2_ni (by decide)]; exact h6
    have C1 : Cor V V1 := by rw [hV1]; exact v405.2.2
    have hs := hW.seat h5
    obtain ⟨r5, er⟩ := hW.r5 hs.1
    have h14 : 0 ≤ V 406 14 ∧ V 406 14 ≤ 60 := hW.2.2.2.2.2.2.2.2.1
    have h13 : 0 ≤ V 406 13 ∧ V 406 13 ≤ 9999 := hW.2.2.2.2.2.2.2.1
    refine ⟨fun _ => m_remembers e5 ha (fun V' hR => u_32_32 ?_), fun h5 => by omega⟩
    have f6 : V' 406 = V 406 := by rw [hR.2.2.1 406 (by decide), e6]
    rw [f6, ← er]
    refine m_hears (by rw [f6]; exact hW) (by rw [f6]; have := hs.1; omega) (by rw [f6]; exact ⟨hs.2.1, hs.2.2⟩) ?_
    rw [f6]
    intro V2 hh _ F2
    have g6 : V2 406 = V 406 := by rw [F2.at_ 406 (by decide), f6]
    obtain ⟨f, hf⟩ : ∃ f, f = hearT (V 406) (V 406 5).toNat (V 406 6) (V 406 7) := ⟨_, rfl⟩
    rw [← hf] at h hh ⊢
    refine u_32_56 ?_
    have main : ∀ (n : Nat) (q : Rw) (V3 : xF), n ≤ 64 → lgs f n q = lgs f 64 (V 406) → (∀ k, k < 331 → V3 406 k = q k) → (∀ k, 331 ≤ k → V3 406 k = V 406 k) → 0 ≤ q 14 ∧ q 14 ≤ 60 → q 13 = V 406 13 → Fr [406] V2 V3 → RY d 32 60 [vr 405, vi (cntT f 64), vi ((n : Int) - 1)] [] V3 D Q := by
      intro n
      induction n with
      | zero =>
        intro q V3 hn hl hq hq2 q14 q13 F3
        refine u_32_60 ⟨fun _ => ?_, fun h7 => by omega⟩
        have eq : q = lgs f 64 (V 406) := hl
        rintro V4 e4
        rw [hq 13 (by omega), q13, wr_id (x := V 406 13 + 1) (by omega) (by omega)] at e4
        have ey : yr_169 9999 (V 406 13 + 1) V3 D = if 9999 < V 406 13 + 1 then 9999 else V 406 13 + 1 := rfl
        rw [ey] at e4
        have hc := cut406 (i := 13) (z := if 9999 < V 406 13 + 1 then 9999 else V 406 13 + 1) hq (by omega)
        rw [← e4] at hc
        refine h V4 ?_ (ActM.of (S := [412, 413, 406]) C1 hR ?_ (by decide) (fun k hk => ?_) (fun k hk => ?_))
        · rw [e4, up2_na (by decide), F3.at_ 405 (by decide), F2.at_ 405 (by decide), hR.2.1 0 (by decide)]; exact t0
        · rw [e4]; exact ((F2.sub (by decide)).tr (F3.sub (by decide))).tr (Fr.up (by decide))
        · rw [hc.1 k hk, eq]; rfl
        · rw [hc.2 k hk, hq2 k hk, f6]
      | succ n ih =>
        intro q V3 hn hl hq hq2 q14 q13 F3
        have el : lgs f (n + 1) q = lgs f n (if 0 < f n then lgR q n (f n) else q) := rfl
        rw [show ((n + 1 : Nat) : Int) - 1 = (n : Int) by omega]
        refine u_32_60 ⟨fun h7 => by omega, fun _ => ⟨by omega, ?_⟩⟩
        rw [nn_toNat, F3.at_ 412 (by decide), hh n (by omega), wr_id (x := (n : Int) + (-1)) (by omega) (by omega), show (n : Int) + (-1) = (n : Int) - 1 by omega]
        refine ⟨fun h7 => ?_, fun h7 => ⟨by omega, ?_⟩⟩
        · rw [if_neg (by omega)] at el
          exact ih q V3 (by omega) (by rw [← el]; exact hl) hq hq2 q14 q13 F3
        · rw [if_pos h7] at el
          refine m_logs hq q14 (fun V4 k1 k2 F4 => u_32_84 ?_)
          rw [wr_id (x := (n : Int) + (-1)) (by omega) (by omega), show (n : Int) + (-1) = (n : Int) - 1 by omega]
          refine ih (lgR q n (f n)) V4 (by omega) (by rw [← el]; exact hl) k1 (fun k hk => by rw [k2 k hk]; exact hq2 k hk) ?_ (by rw [lgR_k (by omega) (by omega)]; exact q13) (F3.tr F4)
          show 0 ≤ (if 60 < q 14 + 1 then (60 : Int) else q 14 + 1) ∧ (if 60 < q 14 + 1 then (60 : Int) else q 14 + 1) ≤ 60
          split <;> omega
    exact main 64 (V 406) V2 (by omega) rfl (fun k _ => by rw [g6]) (fun k _ => by rw [g6]) h14 rfl Fr.rf
  · rw [sIf_y h5] at h
    rintro V1 hV1
    have t0 : V1 405 0 = 1 := by rw [hV1]; exact v405.1
    exact ⟨fun h7 => by omega, fun _ => h V1 t0 (by rw [hV1]; exact v405.2.2)⟩
end CLAP
