/-! ===== THE MODEL READS ITS LINES ===== -/
def hdE (F : Nat → Int) (st op : Bool) (l : List Int) : Bool := match (evL F st op l ([true], 0, 0)).1 with
  | a :: _ => a
  | [] => true
theorem EV.hd {F : Nat → Int} {st op : Bool} {l : List Int} {v : Bool} (h : EV F st op l v) : hdE F st op l = v := by
  obtain ⟨lf, e⟩ := h [true] 0
  unfold hdE
  rw [e]
/-- what a line does: refused, liked -/
def lnE (F : Nat → Int) (st op : Bool) (q : Int × Int) (x : Ln) : Int × Int := if hdE F st op x.2.2 = true then (if q.1 ≠ 0 ∨ x.1 = 2 then 1 else 0, wr (q.2 + (if x.1 = 0 then x.2.1 else -x.2.1))) else q
def lsE (F : Nat → Int) (st op : Bool) (ls : List Ln) (q : Int × Int) : Int × Int := ls.foldl (lnE F st op) q
def vL (V : xF) (r z : Int) : xF := up2 (up2 V 405 18 r) 405 17 z
section MREAD
variable {V : xF} {D : yD} {T : TK} {m N : Nat}
theorem mst_up {a f dp z : Int} {k : Nat} (h1 : k ≠ 11) (h2 : k ≠ 12) (h3 : k ≠ 13) : up2 (mst V a f dp) 405 k z = mst (up2 V 405 k z) a f dp := by
  funext c j
  unfold mst up2
  (repeat' split) <;> first | rfl | omega
theorem vL_17 {r z : Int} : vL V r z 405 17 = z := up2_at _ _ _ _
theorem vL_18 {r z : Int} : vL V r z 405 18 = r := by unfold vL; rw [up2_ni (by decide), up2_at]
theorem vL_k {r z : Int} {k : Nat} (h1 : k ≠ 17) (h2 : k ≠ 18) : vL V r z 405 k = V 405 k := by unfold vL; rw [up2_ni h1, up2_ni h2]
theorem vL_n {r z : Int} {c : Nat} (h : c ≠ 405) : vL V r z c = V c := by unfold vL; rw [up2_na h, up2_na h]
theorem vL_vL {r z r' z' : Int} : vL (vL V r z) r' z' = vL V r' z' := by
  funext c j
  unfold vL up2
  (repeat' split) <;> first | rfl | omega
theorem vL_same : vL V (V 405 18) (V 405 17) = V := by
  unfold vL
  rw [up2_same (V := V) rfl, up2_same rfl]
theorem LR.vL {r z : Int} (h : LR V T m N) : LR (vL V r z) T m N := by
  obtain ⟨h1, ⟨h2, h3, h4⟩, h5, h6⟩ := h
  refine ⟨h1, ⟨by rw [vL_k (by decide) (by decide)]; exact h2, h3, ?_⟩, fun a g1 g2 j => by rw [vL_n (by omega)]; exact h5 a g1 g2 j, ?_⟩
  · rw [vL_k (by decide) (by decide), vL_n (by decide), vL_n (by decide)]; exact h4
  · unfold Bv
    rw [vL_k (by decide) (by decide), vL_k (by decide) (by decide)]; exact h6
theorem Fk_vL {r z : Int} : Fk (vL V r z) ↔ Fk V := by
  unfold Fk
  rw [vL_n (by decide)]
theorem fc_vL {r z : Int} : fcV (vL V r z) = fcV V ∧ stV (vL V r z) = stV V ∧ opV (vL V r z) = opV V := by
  refine ⟨?_, ?_, ?_⟩
  · funext k; show vL V r z 411 k = V 411 k; rw [vL_n (by decide)]
  · show decide (vL V r z 405 15 = 1) = _; rw [vL_k (by decide) (by decide)]
  · show decide (vL V r z 405 16 = 1) = _; rw [vL_k (by decide) (by decide)]
/-- behind a line -/
def lnR (V : xF) (x : Ln) (r z : Int) : Prop := (r = V 405 18 ∨ r = 0 ∨ r = 1) ∧ (Fk V → (r, z) = lnE (fcV V) (stV V) (opV V) (V 405 18, V 405 17) x)
abbrev lS (V : xF) (D : yD) (T : TK) (N : Nat) (Q : xRes → xF → yD → Prop) : Nat → Ln → Prop := fun j x => ∀ a' r z, j ≤ N → Ah T j a' → lnR V x r z → Q (.inl none) (mst (vL V r z) a' (-1) 0) D
abbrev lF (V : xF) (D : yD) (T : TK) (Q : xRes → xF → yD → Prop) : Nat → Prop := fun e => ∀ a' dp', 0 ≤ a' → a' ≤ 1000 → Q (.inl none) (mst V a' (T.2.2.1 e) dp') D
theorem m_tail (hR : LR V T m N) {d : Nat} {i : Nat} {a k w : Int} {Q : xRes → xF → yD → Prop} (hd : 30 ≤ d) (hi : i ≤ N) (ha : Ah T i a) (hk : k = 0 ∨ k = 1 ∨ k = 2) (hw : 0 ≤ w ∧ w ≤ 50) (h : qOk (pTl T k w i) (lS V D T N Q) (lF V D T Q)) : RY d 302 0 [vr 405, vr 42, vr 0, vr 0] [] (mst V a (-1) 0) D (yback d 230 88 [vr 405, vi k, vi w, vr 0] [] Q) := by
  obtain ⟨hT, hM, hV, hB⟩ := id hR
  have hN4 : N ≤ 400 := by have := hT.1; have := hM.2.1; omega
  unfold pTl pIf at h
  -- the line holds
  have upd : ∀ (j : Nat) (a' : Int) (l : List Int), j ≤ N → Ah T j a' → (Fk V → hdE (fcV V) (stV V) (opV V) l = true) → lS V D T N Q j (k, w, l) → (((mst V a' (-1) 0) 405 18 ≠ 0 → ∀ V1 : xF, V1 = up2 (mst V a' (-1) 0) 405 18 1 → ((k ≠ 0 → ∀ V2 : xF, V2 = up2 V1 405 17 (wr ((V1 405 17) + (wr (-w)))) → Q (.inl none) V2 D) ∧ (k = 0 → ∀ V3 : xF, V3 = up2 V1 405 17 (wr ((V1 405 17) + w)) → Q (.inl none) V3 D))) ∧ ((mst V a' (-1) 0) 405 18 = 0 → ((k ≠ 2 → ∀ V4 : xF, V4 = up2 (mst V a' (-1) 0) 405 18 0 → ((k ≠ 0 → ∀ V5 : xF, V5 = up2 V4 405 17 (wr ((V4 405 17) + (wr (-w)))) → Q (.inl none) V5 D) ∧ (k = 0 → ∀ V6 : xF, V6 = up2 V4 405 17 (wr ((V4 405 17) + w)) → Q (.inl none) V6 D))) ∧ (k = 2 → ∀ V7 : xF, V7 = up2 (mst V a' (-1) 0) 405 18 1 → ((k ≠ 0 → ∀ V8 : xF, V8 = up2 V7 405 17 (wr ((V7 405 17) + (wr (-w)))) → Q (.inl none) V8 D) ∧ (k = 0 → ∀ V9 : xF, V9 = up2 V7 405 17 (wr ((V7 405 17) + w)) → Q (.inl none) V9 D)))))) := by
    intro j a' l hj hA hE hS
    rw [mst_k (by decide) (by decide) (by decide)]
    have one : ∀ (r : Int), (r = 0 ∨ r = 1) → r = (if V 405 18 ≠ 0 ∨ k = 2 then 1 else 0) → ∀ V1 : xF, V1 = up2 (mst V a' (-1) 0) 405 18 r → ((k ≠ 0 → ∀ V2 : xF, V2 = up2 V1 405 17 (wr ((V1 405 17) + (wr (-w)))) → Q (.inl none) V2 D) ∧ (k = 0 → ∀ V3 : xF, V3 = up2 V1 405 17 (wr ((V1 405 17) + w)) → Q (.inl none) V3 D)) := by
      intro r hr hre V1 hV1
      have e17 : V1 405 17 = V 405 17 := by rw [hV1, up2_ni (by decide), mst_k (by decide) (by decide) (by decide)]
      have fin : ∀ z, z = wr (V 405 17 + (if k = 0 then w else -w)) → Q (.inl none) (up2 V1 405 17 z) D := by
        intro z hz
        have := hS a' r z hj hA ⟨Or.inr hr, fun hF => by
          unfold lnE
          rw [if_pos (hE hF)]
          dsimp only
          rw [← hre, ← hz]⟩
        rw [hV1, mst_up (by decide) (by decide) (by decide), mst_up (by decide) (by decide) (by decide)]
        exact this
      rw [e17]
      refine ⟨fun h0 => ?_, fun h0 => ?_⟩
      · rintro V2 rfl
        rw [wr_id (x := -w) (by omega) (by omega)]
        exact fin _ (by rw [if_neg h0])
      · rintro V2 rfl
        exact fin _ (by rw [if_pos h0])
    refine ⟨fun h5 => one 1 (Or.inr rfl) (by rw [if_pos (Or.inl h5)]), fun h5 => ⟨fun h6 => one 0 (Or.inl rfl) (by rw [if_neg (fun hc => by rcases hc with hc | hc; exact hc h5; exact h6 hc)]), fun h6 => one 1 (Or.inr rfl) (by rw [if_pos (Or.inr h6)])⟩⟩
  refine hR.has (by omega) (by omega) hi ha (fun hlt ht => u_230_88 ⟨fun h5 => absurd h5 (by decide), fun _ => ?_⟩) (fun ht => u_230_88 ⟨fun _ => ?_, fun h5 => absurd rfl h5⟩)
  · rw [pif_y ht] at h
    refine (m_G (D := D) hR hM.2.1 3000).2.2 0 (i + 1) d _ _ hlt (by omega) (by unfold needG; omega) (by omega) (Ah.nxt hT hlt) ?_
    obtain ⟨⟨j, o⟩, hr⟩ : ∃ r, r = pG T 3000 3 0 (i + 1) := ⟨_, rfl⟩
    have hbd := pG_bd hT 3000 3 0 (i + 1) (by omega)
    rw [← hr] at h hbd ⊢
    cases o with
    | none =>
      have h : lF V D T Q j := h
      have hj : j ≤ N := hbd
      intro v a' dp' ha1 ha2 hv
      refine u_230_95 ?_
      rw [mst_12]
      refine ⟨fun _ => ⟨fun _ => h _ _ ha1 (by omega), fun h5 => absurd h5 (hR.nn hj)⟩, fun _ => ⟨fun _ => h _ _ ha1 (by omega), fun h5 => absurd h5 (hR.nn hj)⟩⟩
    | some l =>
      have h : lS V D T N Q j (k, w, l) := h
      intro v a' hv hE hA hj
      refine u_230_95 ?_
      rw [mst_12]
      refine ⟨fun h6 => ⟨fun h5 => absurd rfl h5, fun _ => ?_⟩, fun h6 => ⟨fun h5 => absurd rfl h5, fun _ => ?_⟩⟩
      · have := h a' (V 405 18) (V 405 17) hj hA ⟨Or.inl rfl, fun hF => by
          unfold lnE
          rw [if_neg (by rw [(hE hF).hd, h6]; decide)]⟩
        rw [vL_same] at this
        exact this
      · have hv1 : v = 1 := by omega
        exact upd j a' l hj hA (fun hF => by rw [(hE hF).hd, hv1]; rfl) h
  · rw [pif_n ht] at h
    have h : lS V D T N Q i (k, w, []) := h
    rw [mst_12]
    exact ⟨fun h5 => absurd rfl h5, fun _ => upd i _ [] hi (Ah.beg hT hi) (fun _ => rfl) h⟩
theorem m_line (hR : LR V T m N) {d : Nat} {i : Nat} {a : Int} {Q : xRes → xF → yD → Prop} (hd : 30 ≤ d) (hi : i ≤ N) (ha : Ah T i a) (h : qOk (pLine T i) (lS V D T N Q) (lF V D T Q)) : RY d 230 0 [vr 405, vr 0, vr 0, vr 0] [] (mst V a (-1) 0) D Q := by
  obtain ⟨hT, hM, hV, hB⟩ := id hR
  have hm4 := hM.2.1
  have weight : ∀ (k : Int), k = 0 ∨ k = 1 → i < N → qOk (pWt T k (i + 1)) (lS V D T N Q) (lF V D T Q) → RY d 303 0 [vr 405, vi 0, vi 50, vr 0, vr 0] [] (mst V (T.2.2.2 i) (-1) 0) D (yback d 230 71 [vr 405, vi k, vr 0, vr 0] [] Q) := by
    intro k hk hlt hh
    unfold pWt at hh
    refine m_fig hT hM (show i + 1 ≤ N by omega) (Ah.nxt hT hlt) (fun v hv => u_230_71 ?_) (fun hno v a' ha1 ha2 => u_230_71 ?_)
    · have hx : ∃ v, kN T (i + 1) 0 50 v := ⟨v, hv⟩
      rw [qif_y hx, show Classical.epsilon (kN T (i + 1) 0 50) = v from tN_uni (Classical.epsilon_spec hx) hv] at hh
      rw [mst_12]
      exact ⟨fun _ => m_tail hR hd (kN_lt hT (by omega) hv) (Ah.nxt hT (kN_lt hT (by omega) hv)) (by omega) ⟨hv.2.2.2.1, hv.2.2.2.2⟩ hh, fun h5 => absurd rfl h5⟩
    · rw [qif_n (fun ⟨v, hv⟩ => hno v hv)] at hh
      have hh : lF V D T Q (i + 1) := hh
      rw [mst_12]
      exact ⟨fun h5 => absurd h5 (hR.nn (by omega)), fun _ => hh _ _ ha1 (by omega)⟩
  unfold pLine at h
  refine u_230_0 (hR.has (by omega) (by omega) hi ha (fun hlt ht => u_230_6 ⟨fun h5 => absurd h5 (by decide), fun _ => ?_⟩) (fun ht => u_230_6 ⟨fun _ => ?_, fun h5 => absurd rfl h5⟩))
  · rw [qif_y ht] at h
    exact weight 0 (Or.inl rfl) hlt h
  rw [qif_n ht] at h
  refine hR.has (by omega) (by omega) hi (Ah.beg hT hi) (fun hlt ht2 => u_230_19 ⟨fun h5 => absurd h5 (by decide), fun _ => ?_⟩) (fun ht2 => u_230_19 ⟨fun _ => ?_, fun h5 => absurd rfl h5⟩)
  · rw [qif_y ht2] at h
    exact weight 1 (Or.inr rfl) hlt h
  rw [qif_n ht2] at h
  refine hR.has (by omega) (by omega) hi (Ah.beg hT hi) (fun hlt ht3 => u_230_32 ⟨fun h5 => absurd h5 (by decide), fun _ => ?_⟩) (fun ht3 => u_230_32 ⟨fun _ => ?_, fun h5 => absurd rfl h5⟩)
  · rw [qif_y ht3] at h
    rw [mst_12]
    exact ⟨fun _ => m_tail hR hd (by omega) (Ah.nxt hT hlt) (by omega) (by omega) h, fun h5 => absurd rfl h5⟩
  · rw [qif_n ht3] at h
    have h : lF V D T Q i := h
    have hb := hT.bnd hi
    rw [mst_12, mst_11]
    refine ⟨fun h5 => absurd rfl h5, fun _ => ?_⟩
    rintro V1 rfl
    rw [mst_w12]
    exact h _ _ (by omega) (by omega)
/-- where something is wrong, spaces are passed over all the same -/
theorem m_skipF (hM : MT V T.1 m) {d : Nat} {f dp : Int} {Q : xRes → xF → yD → Prop} (h : ∀ a', 0 ≤ a' → Q (.inl none) (mst V a' f dp) D) : ∀ (n : Nat) (a : Int), 0 ≤ a → (m : Int) ≤ a + n → RY d 228 0 [vr 405] [] (mst V a f dp) D Q := by
  intro n
  induction n with
  | zero =>
    intro a h0 hn
    refine u_228_0 ?_
    rw [mst_11, mst_k (by decide) (by decide) (by decide), hM.1]
    exact ⟨fun _ => h a h0, fun h5 => by omega⟩
  | succ n ih =>
    intro a h0 hn
    have hm4 := hM.2.1
    refine u_228_0 ?_
    rw [mst_11, mst_k (by decide) (by decide) (by decide), hM.1]
    refine ⟨fun _ => h a h0, fun h5 => ?_⟩
    have y := mt301 (a := a) (f := f) (dp := dp) (D := D) (k := a.toNat) hM (by omega)
    rw [show ((a.toNat : Nat) : Int) = a by omega] at y
    refine ⟨y.1, fun _ => h a h0, fun _ => ?_⟩
    rintro V1 rfl
    rw [mst_w11, wr_id (by omega) (by omega)]
    exact ih (a + 1) (by omega) (by omega)
def lsR (V : xF) (ls : List Ln) (r z : Int) : Prop := (r = V 405 18 ∨ r = 0 ∨ r = 1) ∧ (Fk V → (r, z) = lsE (fcV V) (stV V) (opV V) ls (V 405 18, V 405 17))
theorem m_lread (hR : LR V T m N) {d : Nat} {a : Int} {Q : xRes → xF → yD → Prop} (hd : 30 ≤ d) (ha : Ah T 0 a)
    (h : qOk (pLaw T N) (fun j ls => ∀ a' r z, lsR V ls r z → 0 ≤ a' → Q (.inl (some (vi (ls.length : Int)))) (mst (vL V r z) a' (-1) 0) D) (fun e => ∀ n a' dp' r z, e ≤ N → (r = V 405 18 ∨ r = 0 ∨ r = 1) → Q (.inl (some (vi n))) (mst (vL V r z) a' (T.2.2.1 e) dp') D)) : RY d 128 0 [vr 405, vi 1, vr 0, vr 0] [] (mst V a (-1) 0) D Q := by
  obtain ⟨hT, hM, hV, hB⟩ := id hR
  have hm4 := hM.2.1
  have hb0 := hT.bnd (Nat.zero_le N)
  refine u_128_0 (m_skip hT hM (Nat.zero_le N) ha (u_128_4 ?_))
  rw [mst_11, mst_k (by decide) (by decide) (by decide), hM.1]
  -- something is wrong
  have bad : ∀ (go n e : Int) (e' : Nat) (a' dp' r z : Int), pLaw T N = (e', none) → e' ≤ N → (r = V 405 18 ∨ r = 0 ∨ r = 1) → RY d 128 23 [vr 405, vi 1, vi go, vi n] [] (mst (vL V r z) a' (T.2.2.1 e') dp') D Q := by
    intro go n e e' a' dp' r z hp he hr
    rw [hp] at h
    have hh : Q (.inl (some (vi n))) (mst (vL V r z) a' (T.2.2.1 e') dp') D := h n a' dp' r z he hr
    refine u_128_23 ⟨fun _ => hh, fun _ => ?_⟩
    rw [mst_12]
    exact ⟨fun _ => hh, fun h5 => absurd h5 (hR.nn he)⟩
  have done : ∀ (a' r z : Int) (ls : List Ln), pLaw T N = (N, some ls) → lsR V ls r z → 0 ≤ a' → RY d 128 23 [vr 405, vi 1, vi 0, vi (ls.length : Int)] [] (mst (vL V r z) a' (-1) 0) D Q := by
    intro a' r z ls hp hl ha'
    rw [hp] at h
    exact u_128_23 ⟨fun _ => h a' r z hl ha', fun h5 => absurd rfl h5⟩
  have loop : ∀ (n i : Nat) (a r z : Int) (ls : List Ln), ls.length + n = 12 → i ≤ N → Ah T i a → lsR V ls r z → qOk (pLs T N n i) (fun j l => pLaw T N = (N, some (ls ++ l))) (fun e => pLaw T N = (e, none)) → RY d 128 23 [vr 405, vi 1, vi 1, vi (ls.length : Int)] [] (mst (vL V r z) a (-1) 0) D Q := by
    intro n
    induction n with
    | zero =>
      intro i a r z ls hl hi hA hls hp
      have hp : pLaw T N = (i, none) := hp
      have hb := hT.bnd hi
      have hR1 := hR.vL (r := r) (z := z)
      refine u_128_23 ⟨fun h5 => absurd h5 (by decide), fun _ => ?_⟩
      rw [mst_12]
      refine ⟨fun h5 => absurd rfl h5, fun _ => m_skip hT hR1.2.1 hi hA (u_128_39 ⟨fun h5 => absurd h5 (by decide), fun _ => ⟨fun h5 => by omega, fun _ => ?_⟩⟩)⟩
      rw [mst_12, mst_11]
      refine ⟨fun h5 => absurd rfl h5, fun _ => ?_⟩
      rintro V1 rfl
      rw [mst_w12]
      refine m_skipF hR1.2.1 (fun a' ha' => u_128_87 ?_) 400 _ (by omega) (by omega)
      rw [mst_12]
      exact ⟨fun _ => bad 0 _ 0 i a' _ r z hp hi hls.1, fun h5 => absurd h5 (hR.nn hi)⟩
    | succ n ih =>
      intro i a r z ls hl hi hA hls hp
      have hb := hT.bnd hi
      have hR1 := hR.vL (r := r) (z := z)
      unfold pLs at hp
      refine u_128_23 ⟨fun h5 => absurd h5 (by decide), fun _ => ?_⟩
      rw [mst_12]
      refine ⟨fun h5 => absurd rfl h5, fun _ => m_skip hT hR1.2.1 hi hA (u_128_39 ⟨fun h5 => absurd h5 (by decide), fun _ => ⟨fun _ => ⟨fun h5 => absurd h5 (by decide), fun _ => ?_⟩, fun h5 => by omega⟩⟩)⟩
      refine m_line hR1 hd hi (Ah.beg hT hi) ?_
      obtain ⟨⟨j, o⟩, hr⟩ : ∃ r, r = pLine T i := ⟨_, rfl⟩
      have hbd := pLine_bd hT hi
      rw [← hr] at hp hbd ⊢
      have en : wr ((ls.length : Int) + 1) = (((ls.length + 1 : Nat)) : Int) := by rw [wr_id (by omega) (by omega)]; omega
      cases o with
      | none =>
        have hp : pLaw T N = (j, none) := hp
        have hj : j ≤ N := hbd
        intro a' dp' ha1 ha2
        refine u_128_73 (m_skipF hR1.2.1 (fun a2 ha' => u_128_87 ?_) 400 _ ha1 (by omega))
        rw [mst_12]
        exact ⟨fun _ => bad 0 _ 0 j a2 _ r z hp hj hls.1, fun h5 => absurd h5 (hR.nn hj)⟩
      | some x =>
        have hij : i < j := hbd.1
        have hjN : j ≤ N := hbd.2.1
        have hp : qOk (qif (j = N) (j, some [x]) (qif (kS T j 59) (match pLs T N n (j + 1) with | (e, none) => (e, none) | (j', some r) => (j', some (x :: r))) (j, none))) (fun j l => pLaw T N = (N, some (ls ++ l))) (fun e => pLaw T N = (e, none)) := hp
        intro a' r' z' _ hA' hln
        rw [vL_vL]
        have hb2 := hT.bnd hjN
        have hR2 := hR.vL (r := r') (z := z')
        have hls' : lsR V (ls ++ [x]) r' z' := by
          refine ⟨?_, fun hF => ?_⟩
          · rcases hln.1 with e | e
            · rw [vL_18] at e; rw [e]; exact hls.1
            · exact Or.inr e
          · have e1 := hls.2 hF
            have e2 := hln.2 (Fk_vL.mpr hF)
            rw [fc_vL.1, fc_vL.2.1, fc_vL.2.2, vL_17, vL_18] at e2
            unfold lsE at e1 ⊢
            rw [List.foldl_append, ← e1]
            exact e2
        refine u_128_73 (m_skip hT hR2.2.1 hjN hA' (u_128_87 ?_))
        rw [mst_12, mst_11, mst_k (by decide) (by decide) (by decide), hR2.2.1.1, en]
        clear en
        have el : (ls ++ [x]).length = ls.length + 1 := by rw [List.length_append]; rfl
        refine ⟨fun h5 => absurd rfl h5, fun _ => ⟨fun h5 => ?_, fun h5 => ?_⟩⟩
        · have ej : j ≠ N := by
            intro e
            rw [e] at h5
            exact h5 hT.2.2.1
          rw [qif_n ej] at hp
          refine hR2.sgn (by decide) hjN (Ah.beg hT hjN) (fun hlt ht => u_128_117 ⟨fun h6 => absurd h6 (by decide), fun _ => ?_⟩) (fun ht => u_128_117 ⟨fun _ => ?_, fun h6 => absurd rfl h6⟩)
          · rw [qif_y ht] at hp
            rintro V2 rfl
            rw [mst_w11, mst_11]
            have := ih (j + 1) (wr (T.2.2.1 j + 1)) r' z' (ls ++ [x]) (by omega) hlt (Ah.sgn hT hm4 hjN ht).1 hls' ?_
            · rw [el] at this
              exact this
            · obtain ⟨⟨j', o'⟩, hr'⟩ : ∃ r, r = pLs T N n (j + 1) := ⟨_, rfl⟩
              rw [← hr'] at hp ⊢
              cases o' with
              | none => exact hp
              | some l =>
                show pLaw T N = (N, some (ls ++ [x] ++ l))
                rw [List.append_assoc]
                exact hp
          · rw [qif_n ht] at hp
            have hp : pLaw T N = (j, none) := hp
            rw [mst_12, mst_11]
            refine ⟨fun h6 => absurd rfl h6, fun _ => ?_⟩
            rintro V2 rfl
            rw [mst_w12]
            exact bad _ _ 0 j _ _ r' z' hp hjN hls'.1
        · have ej : j = N := by
            apply Classical.byContradiction
            intro e
            have := hb2.2.2.2 (by omega)
            omega
          rw [qif_y ej] at hp
          have hp : pLaw T N = (N, some (ls ++ [x])) := hp
          have := done (T.2.2.1 j) r' z' _ hp hls' (by omega)
          rw [el] at this
          exact this
  by_cases eN : N = 0
  · have e0 : T.2.2.1 0 = (m : Int) := by rw [← eN]; exact hT.2.2.1
    have hp : pLaw T N = (N, some []) := by unfold pLaw; rw [if_pos eN, eN]
    refine ⟨fun _ => ?_, fun h5 => by omega⟩
    have := done (T.2.2.1 0) (V 405 18) (V 405 17) [] hp ⟨Or.inl rfl, fun _ => rfl⟩ (by omega)
    rw [vL_same] at this
    exact this
  · have hlt := hb0.2.2.2 (by omega)
    refine ⟨fun h5 => by omega, fun _ => ?_⟩
    have := loop 12 0 (T.2.2.1 0) (V 405 18) (V 405 17) [] rfl (Nat.zero_le N) (Ah.beg hT (Nat.zero_le N)) ⟨Or.inl rfl, fun _ => rfl⟩ ?_
    · rw [vL_same] at this
      exact this
    · unfold pLaw
      rw [if_neg eN]
      obtain ⟨⟨j, o⟩, hr⟩ : ∃ r, r = pLs T N 12 0 := ⟨_, rfl⟩
      rw [← hr]
      cases o with
      | none => rfl
      | some l =>
        have last : ∀ (n i : Nat) (j : Nat) (r : List Ln), pLs T N n i = (j, some r) → j = N := by
          intro n
          induction n with
          | zero => intro i j r hh; cases hh
          | succ n ih =>
            intro i j r hh
            unfold pLs at hh
            obtain ⟨⟨j1, o1⟩, hr1⟩ : ∃ r, r = pLine T i := ⟨_, rfl⟩
            rw [← hr1] at hh
            cases o1 with
            | none => cases hh
            | some x =>
              have hh : qif (j1 = N) (j1, some [x]) (qif (kS T j1 59) (match pLs T N n (j1 + 1) with | (e, none) => (e, none) | (j', some r) => (j', some (x :: r))) (j1, none)) = (j, some r) := hh
              by_cases ej : j1 = N
              · rw [qif_y ej] at hh
                cases hh
                exact ej
              · rw [qif_n ej] at hh
                by_cases es : kS T j1 59
                · rw [qif_y es] at hh
                  obtain ⟨⟨j2, o2⟩, hr2⟩ : ∃ r, r = pLs T N n (j1 + 1) := ⟨_, rfl⟩
                  rw [← hr2] at hh
                  cases o2 with
                  | none => cases hh
                  | some r2 =>
                    cases hh
                    exact ih (j1 + 1) j r2 hr2.symm
                · rw [qif_n es] at hh; cases hh
        have := last 12 0 j l hr.symm
        subst this
        rfl
end MREAD
