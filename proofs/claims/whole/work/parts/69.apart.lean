/-! ===== ROOMS APART, TWINS, BEST ===== -/
theorem eqT_sym {f g : Nat → Int} {n : Nat} : eqT f g n = eqT g f n := by
  rw [Bool.eq_iff_iff, eqT_iff, eqT_iff]
  exact ⟨fun h t ht => (h t ht).symm, fun h t ht => (h t ht).symm⟩
/-- both rooms have a place so far from their middles -/
def bothP (p : Rw) (r o : Nat) (e n : Int) : Prop := isPl p r (rW p r / 2 + e) (rD p r / 2 + n) ∧ isPl p o (rW p o / 2 + e) (rD p o / 2 + n)
def hOff (p : Rw) (r : Nat) (e n : Int) : Nat → Int := hearT p r (rW p r / 2 + e) (rD p r / 2 + n)
def told (p : Rw) (r o : Nat) (e n : Int) : Prop := bothP p r o e n ∧ eqT (hOff p r e n) (hOff p o e n) 64 = false
theorem told_sym {p : Rw} {r o : Nat} {e n : Int} : told p r o e n ↔ told p o r e n := by
  unfold told bothP
  rw [eqT_sym]
  exact ⟨fun h => ⟨⟨h.1.2, h.1.1⟩, h.2⟩, fun h => ⟨⟨h.1.2, h.1.1⟩, h.2⟩⟩
def isAp (p : Rw) (r o : Nat) (k : Int) : Prop := (k = -1 ∧ ∀ e n : Int, e.natAbs + n.natAbs ≤ 6 → ¬ told p r o e n) ∨ ∃ m : Nat, k = (m : Int) ∧ m ≤ 6 ∧ (∃ e n : Int, e.natAbs + n.natAbs = m ∧ told p r o e n) ∧ ∀ e n : Int, e.natAbs + n.natAbs < m → ¬ told p r o e n
theorem isAp.uni {p : Rw} {r o : Nat} {a b : Int} (h : isAp p r o a) (h' : isAp p r o b) : a = b := by
  rcases h with ⟨a1, a2⟩ | ⟨m, a1, a2, ⟨e, n, a3, a4⟩, a5⟩ <;> rcases h' with ⟨b1, b2⟩ | ⟨m', b1, b2, ⟨e', n', b3, b4⟩, b5⟩
  · omega
  · exact absurd b4 (a2 e' n' (by omega))
  · exact absurd a4 (b2 e n (by omega))
  · rcases Nat.lt_trichotomy m m' with h | h | h
    · exact absurd a4 (b5 e n (by omega))
    · omega
    · exact absurd b4 (a5 e' n' (by omega))
theorem isAp.sym {p : Rw} {r o : Nat} {k : Int} (h : isAp p r o k) : isAp p o r k := by
  rcases h with ⟨a1, a2⟩ | ⟨m, a1, a2, ⟨e, n, a3, a4⟩, a5⟩
  · exact Or.inl ⟨a1, fun e n h => fun ht => a2 e n h (told_sym.mp ht)⟩
  · exact Or.inr ⟨m, a1, a2, ⟨e, n, a3, told_sym.mp a4⟩, fun e n h => fun ht => a5 e n h (told_sym.mp ht)⟩
noncomputable def apF (p : Rw) (r o : Nat) : Int := Classical.epsilon (isAp p r o)
theorem isAp.eq {p : Rw} {r o : Nat} {k : Int} (h : isAp p r o k) : k = apF p r o := eps_eq (fun _ _ a b => a.uni b) h
/-- cells that such calls of the class use -/
abbrev aLk : List Nat := [254, 255, 384, 385]
abbrev mLk : List Nat := [412, 413, 414, 416]
section APART
variable {d : Nat} {V : xF} {D : yD} {Q : xRes → xF → yD → Prop} {p : Rw}
theorem eq48 {p : Rw} {r o : Nat} {x y u v : Int} (h1 : okPl p r x y) (h2 : okPl p o u v) : eqT (hearT p r x y) (hearT p o u v) 48 = eqT (hearT p r x y) (hearT p o u v) 64 :=
  (eqT_hi (n := 48) 16 (fun t ht => by rw [hear_hi h1 ht, hear_hi h2 ht])).symm
theorem yr328 {r : Nat} {x y : Int} (hS : St V 81 p) (hW : WF p) (hr : (r : Int) < p 3) : yg_328_81 (r : Int) x y V D ∧ yr_328_81 (r : Int) x y V D = @ite _ (isPl p r x y) (Classical.propDecidable _) 1 0 := by
  obtain ⟨r5, hw, hd⟩ := hW.room hr
  have e1 : V 82 r = rW p r := hS.2.1 r r5
  have e2 : V 83 r = rD p r := hS.2.2.1 r r5
  refine ⟨by unfold yg_328_81; omega, ?_⟩
  unfold yr_328_81
  rw [nn_toNat, e1, e2]
  by_cases hc : isPl p r x y
  · rw [if_pos hc]
    unfold isPl at hc
    rw [if_neg (by omega), if_pos (by omega), if_neg (by omega), if_pos (by omega)]
  · rw [if_neg hc]
    unfold isPl at hc
    (repeat' split) <;> omega
theorem c_areTold {r o : Nat} {e n : Int} (hS : St V 81 p) (hB : V 2 = xback5) (hW : WF p) (hr : (r : Int) < p 3) (ho : (o : Int) < p 3) (he : -6 ≤ e ∧ e ≤ 6) (hn : -6 ≤ n ∧ n ≤ 6)
    (h : ∀ V', Fr aLk V V' → Q (.inl (some (vi (@ite _ (told p r o e n) (Classical.propDecidable _) 1 0)))) V' D) : RY d 333 0 [vr 382, vr 81, vi (r : Int), vi (o : Int), vi e, vi n, vr 0, vr 0, vr 0, vr 0] [] V D Q := by
  obtain ⟨r5, hw, hd⟩ := hW.room hr
  obtain ⟨o5, hw2, hd2⟩ := hW.room ho
  have e1 : V 82 r = rW p r := hS.2.1 r r5
  have e2 : V 83 r = rD p r := hS.2.2.1 r r5
  have e3 : V 82 o = rW p o := hS.2.1 o o5
  have e4 : V 83 o = rD p o := hS.2.2.1 o o5
  refine u_333_0_81 ?_
  rw [nn_toNat, nn_toNat, e1, e2, e3, e4, tdiv_nn (by omega), tdiv_nn (by omega), tdiv_nn (by omega), tdiv_nn (by omega), wr_id (x := rW p r / 2) (by omega) (by omega), wr_id (x := rD p r / 2) (by omega) (by omega), wr_id (x := rW p o / 2) (by omega) (by omega), wr_id (x := rD p o / 2) (by omega) (by omega),
    wr_id (x := rW p r / 2 + e) (by omega) (by omega), wr_id (x := rD p r / 2 + n) (by omega) (by omega), wr_id (x := rW p o / 2 + e) (by omega) (by omega), wr_id (x := rD p o / 2 + n) (by omega) (by omega)]
  have y1 := yr328 (D := D) (x := rW p r / 2 + e) (y := rD p r / 2 + n) hS hW hr
  have y2 := yr328 (D := D) (x := rW p o / 2 + e) (y := rD p o / 2 + n) hS hW ho
  have no : ¬ bothP p r o e n → Q (.inl (some (vi 0))) V D := by
    intro hn
    have := h V Fr.rf
    rw [if_neg (fun ht => hn ht.1)] at this
    exact this
  refine ⟨by omega, by omega, by omega, by omega, y1.1, ?_⟩
  rw [y1.2]
  by_cases h1 : isPl p r (rW p r / 2 + e) (rD p r / 2 + n)
  · rw [if_pos h1]
    refine ⟨fun h5 => absurd h5 (by decide), fun _ => ⟨y2.1, ?_⟩⟩
    rw [y2.2]
    by_cases h2 : isPl p o (rW p o / 2 + e) (rD p o / 2 + n)
    · rw [if_pos h2]
      refine ⟨fun _ => ?_, fun h5 => absurd h5 (by decide)⟩
      have b1 := h1.1
      have b2 := h1.2
      have b3 := h2.1
      have b4 := h2.2
      rw [yr265 (by omega) (by omega)]
      refine c_listen_81 hS hB hW hr h1 (Or.inr (Or.inr (Or.inr ⟨by omega, by omega⟩))) ?_
      intro V1 hV1
      have S1 : St V1 81 p := (hV1.2.cor (by decide)).st hS
      refine u_333_100_81 ?_
      rw [yr265 (by omega) (by omega)]
      refine c_listen_81 S1 (by rw [hV1.2.at_ 2 (by decide)]; exact hB) hW ho h2 (Or.inr (Or.inr (Or.inr ⟨by omega, by omega⟩))) ?_
      intro V2 hV2
      refine u_333_122_81 (c_unlike (f := hearT p r (rW p r / 2 + e) (rD p r / 2 + n)) (g := hearT p o (rW p o / 2 + e) (rD p o / 2 + n)) (Or.inr (Or.inr (Or.inr ⟨by omega, by omega⟩))) (Or.inr (Or.inr (Or.inr ⟨by omega, by omega⟩))) (fun t ht => by rw [hV2.2.at_ 384 (by decide)]; exact hV1.1 t ht) hV2.1 ?_)
      have := h V2 ((hV1.2.sub (by decide)).tr (hV2.2.sub (by decide)))
      rw [eq48 ⟨hW, hr, h1⟩ ⟨hW, ho, h2⟩]
      refine u_333_137_81 ⟨by split <;> simp, ?_⟩
      cases hb : eqT (hearT p r (rW p r / 2 + e) (rD p r / 2 + n)) (hearT p o (rW p o / 2 + e) (rD p o / 2 + n)) 64 with
      | true =>
        rw [if_neg (fun ht => by have h9 : eqT (hearT p r (rW p r / 2 + e) (rD p r / 2 + n)) (hearT p o (rW p o / 2 + e) (rD p o / 2 + n)) 64 = false := ht.2; rw [hb] at h9; cases h9)] at this
        exact this
      | false =>
        rw [if_pos ⟨⟨h1, h2⟩, hb⟩] at this
        exact this
    · rw [if_neg h2]
      exact ⟨fun h5 => absurd rfl h5, fun _ => no (fun hb => h2 hb.2)⟩
  · rw [if_neg h1]
    exact ⟨fun _ => no (fun hb => h1 hb.1), fun h5 => absurd rfl h5⟩
theorem c_apart {r o : Nat} (hS : St V 81 p) (hB : V 2 = xback5) (hW : WF p) (hr : (r : Int) < p 3) (ho : (o : Int) < p 3) (h : ∀ V', Fr aLk V V' → Q (.inl (some (vi (apF p r o)))) V' D) : RY d 274 0 [vr 382, vr 81, vi (r : Int), vi (o : Int), vr 0, vr 0, vr 0] [] V D Q := by
  refine u_274_0_81 ?_
  -- steps m; east e; told so far: nothing nearer, nothing of these
  have inner : ∀ (c : Nat) (m : Nat) (e : Int) (V1 : xF) (v6 : xV), m ≤ 6 → e + c = (m : Int) + 1 → -(m : Int) ≤ e → Fr aLk V V1 → (∀ e' n' : Int, e'.natAbs + n'.natAbs < m → ¬ told p r o e' n') → (∀ e' n' : Int, e'.natAbs + n'.natAbs = m → e' < e → ¬ told p r o e' n') → (∀ V2 v5 v6, Fr aLk V V2 → (∀ e' n' : Int, e'.natAbs + n'.natAbs < m + 1 → ¬ told p r o e' n') → RY d 274 3 [vr 382, vr 81, vi (r : Int), vi (o : Int), vi (((m + 1 : Nat)) : Int), v5, v6] [] V2 D Q) → RY d 274 15 [vr 382, vr 81, vi (r : Int), vi (o : Int), vi (m : Int), vi e, v6] [] V1 D Q := by
    intro c
    induction c with
    | zero =>
      intro m e V1 v6 hm he he0 F h1 h2 hx
      refine u_274_15_81 ⟨fun _ => ?_, fun h5 => by omega⟩
      rw [wr_id (by omega) (by omega)]
      refine hx V1 _ _ F fun e' n' hlt => ?_
      by_cases hlt2 : e'.natAbs + n'.natAbs < m
      · exact h1 e' n' hlt2
      · exact h2 e' n' (by omega) (by omega)
    | succ c ih =>
      intro m e V1 v6 hm he he0 F h1 h2 hx
      refine u_274_15_81 ⟨fun h5 => by omega, fun _ => ?_⟩
      have ea : wr ((m : Int) - yr_288 e V1 D) = (m : Int) - (e.natAbs : Int) := by
        unfold yr_288
        by_cases h0 : e < 0
        · rw [if_pos h0, wr_id (x := -e) (by omega) (by omega), wr_id (by omega) (by omega)]; omega
        · rw [if_neg h0, wr_id (by omega) (by omega)]; omega
      rw [ea]
      have S1 : St V1 81 p := (F.cor (by decide)).st hS
      have found : ∀ n : Int, e.natAbs + n.natAbs = m → told p r o e n → ∀ V2, Fr aLk V V2 → Q (.inl (some (vi (m : Int)))) V2 D := by
        intro n hn ht V2 F2
        have hap : isAp p r o (m : Int) := Or.inr ⟨m, rfl, hm, ⟨e, n, hn, ht⟩, h1⟩
        rw [hap.eq]
        exact h V2 F2
      refine c_areTold S1 (by rw [F.at_ 2 (by decide)]; exact hB) hW hr ho (by omega) (by omega) (fun V2 F2 => u_274_43_81 ?_)
      by_cases ht : told p r o e ((m : Int) - (e.natAbs : Int))
      · rw [if_pos ht]
        exact ⟨fun _ => found _ (by omega) ht V2 (F.tr F2), fun h5 => absurd h5 (by decide)⟩
      · rw [if_neg ht]
        refine ⟨fun h5 => absurd rfl h5, fun _ => ?_⟩
        rw [wr_id (x := -((m : Int) - (e.natAbs : Int))) (by omega) (by omega)]
        have F12 := F.tr F2
        have S2 : St V2 81 p := (F12.cor (by decide)).st hS
        refine c_areTold S2 (by rw [F12.at_ 2 (by decide)]; exact hB) hW hr ho (by omega) (by omega) (fun V3 F3 => u_274_58_81 ?_)
        by_cases ht2 : told p r o e (-((m : Int) - (e.natAbs : Int)))
        · rw [if_pos ht2]
          exact ⟨fun h5 => absurd h5 (by decide), fun _ => found _ (by omega) ht2 V3 (F12.tr F3)⟩
        · rw [if_neg ht2]
          refine ⟨fun _ => ?_, fun h5 => absurd rfl h5⟩
          rw [wr_id (x := e + 1) (by omega) (by omega)]
          refine ih m (e + 1) V3 _ hm (by omega) (by omega) (F12.tr F3) h1 (fun e' n' hs hl => ?_) hx
          by_cases e1 : e' = e
          · subst e1
            have : n' = (m : Int) - (e'.natAbs : Int) ∨ n' = -((m : Int) - (e'.natAbs : Int)) := by omega
            rcases this with e2 | e2
            · rw [e2]; exact ht
            · rw [e2]; exact ht2
          · exact h2 e' n' hs (by omega)
  have outer : ∀ (c m : Nat) (V1 : xF) (v5 v6 : xV), m + c = 7 → Fr aLk V V1 → (∀ e' n' : Int, e'.natAbs + n'.natAbs < m → ¬ told p r o e' n') → RY d 274 3 [vr 382, vr 81, vi (r : Int), vi (o : Int), vi (m : Int), v5, v6] [] V1 D Q := by
    intro c
    induction c with
    | zero =>
      intro m V1 v5 v6 hm F h1
      refine u_274_3_81 ⟨fun _ => ?_, fun h5 => by omega⟩
      have hap : isAp p r o (-1) := Or.inl ⟨rfl, fun e n hh => h1 e n (by omega)⟩
      rw [hap.eq]
      exact h V1 F
    | succ c ih =>
      intro m V1 v5 v6 hm F h1
      refine u_274_3_81 ⟨fun h5 => by omega, fun _ => ?_⟩
      rw [wr_id (x := -(m : Int)) (by omega) (by omega)]
      exact inner (2 * m + 1) m (-(m : Int)) V1 _ (by omega) (by omega) (by omega) F h1 (fun e' n' hs hl => by omega) (fun V2 v5 v6 F2 h2 => ih (m + 1) V2 v5 v6 (by omega) F2 h2)
  exact outer 7 0 V _ _ (by omega) Fr.rf (fun e' n' hh => by omega)
/-! ===== the model's ===== -/
theorem m_alike {r o : Nat} {x y u v : Int} (hW : WF (V 406)) (hr : (r : Int) < V 406 3) (ho : (o : Int) < V 406 3) (h1 : isPl (V 406) r x y) (h2 : isPl (V 406) o u v)
    (h : ∀ V', Fr [412, 413, 414] V V' → Q (.inl (some (vi (if eqT (hearT (V 406) r x y) (hearT (V 406) o u v) 64 then 1 else 0)))) V' D) : RY d 275 0 [vr 405, vi (r : Int), vi x, vi y, vi (o : Int), vi u, vi v, vr 0] [] V D Q := by
  refine u_275_0 (m_hears hW hr h1 (fun V1 a1 _ F1 => u_275_7 ?_))
  refine m_keeps a1 (fun V2 a2 F2 => u_275_13 ?_)
  have e6 : V2 406 = V 406 := by rw [F2.at_ 406 (by decide), F1.at_ 406 (by decide)]
  refine m_hears (by rw [e6]; exact hW) (by rw [e6]; exact ho) (by rw [e6]; exact h2) ?_
  rw [e6]
  intro V3 a3 _ F3
  refine u_275_23 (m_isAs (f := hearT (V 406) r x y) (g := hearT (V 406) o u v) (fun t ht => by rw [F3.at_ 414 (by decide)]; exact a2 t ht) a3 (u_275_29 ⟨by split <;> simp, ?_⟩))
  exact h V3 (((F1.sub (by decide)).tr (F2.sub (by decide))).tr (F3.sub (by decide)))
/-- place c, in numbers, seen from the middle -/
def oX (p : Rw) (r c : Nat) : Int := ((c / 16 : Nat) : Int) - rW p r / 2
def oY (p : Rw) (r c : Nat) : Int := ((c % 16 : Nat) : Int) - rD p r / 2
def inB (p : Rw) (r o c : Nat) : Prop := bothP p r o (oX p r c) (oY p r c)
def dsB (p : Rw) (r c : Nat) : Nat := (oX p r c).natAbs + (oY p r c).natAbs
/-- next to c on a side -/
def nxB (c k s : Nat) : Prop := ((c / 16 : Nat) : Int) = ((k / 16 : Nat) : Int) + sdX (s : Int) ∧ ((c % 16 : Nat) : Int) = ((k % 16 : Nat) : Int) + sdY (s : Int)
noncomputable def cmF (p : Rw) (r o n : Nat) (P : Nat → Prop) (c : Nat) : Int :=
  @ite _ (inB p r o c ∧ dsB p r c ≤ n) (Classical.propDecidable _) ((dsB p r c : Nat) : Int) (@ite _ (inB p r o c ∧ dsB p r c = n + 1 ∧ P c) (Classical.propDecidable _) ((n + 1 : Nat) : Int) (-1))
theorem inB_near {p : Rw} (hW : WF p) {r o : Nat} (hr : (r : Int) < p 3) (ho : (o : Int) < p 3) {c n : Nat} (hc : c < 256) (h : inB p r o c) (hd : dsB p r c = n + 1) : ∃ k s, k < 256 ∧ s < 4 ∧ inB p r o k ∧ dsB p r k = n ∧ nxB c k s := by
  obtain ⟨r5, hw, hdd⟩ := hW.room hr
  obtain ⟨o5, hw2, hdd2⟩ := hW.room ho
  unfold inB bothP isPl oX oY at h
  unfold dsB oX oY at hd
  have go : ∀ (k s : Nat), k < 256 → s < 4 → nxB c k s → (isPl p r (rW p r / 2 + oX p r k) (rD p r / 2 + oY p r k) ∧ isPl p o (rW p o / 2 + oX p r k) (rD p o / 2 + oY p r k)) → dsB p r k = n → ∃ k s, k < 256 ∧ s < 4 ∧ inB p r o k ∧ dsB p r k = n ∧ nxB c k s := fun k s h1 h2 h3 h4 h5 => ⟨k, s, h1, h2, h4, h5, h3⟩
  unfold nxB isPl dsB oX oY at go
  by_cases hx : ((c / 16 : Nat) : Int) < rW p r / 2
  · refine go (c + 16) 0 (by omega) (by omega) ⟨?_, ?_⟩ ?_ ?_
    · unfold sdX; simp; omega
    · unfold sdY; simp
    · rw [show (c + 16) / 16 = c / 16 + 1 by omega, show (c + 16) % 16 = c % 16 by omega]; omega
    · rw [show (c + 16) / 16 = c / 16 + 1 by omega, show (c + 16) % 16 = c % 16 by omega]; omega
  · by_cases hx2 : rW p r / 2 < ((c / 16 : Nat) : Int)
    · refine go (c - 16) 1 (by omega) (by omega) ⟨?_, ?_⟩ ?_ ?_
      · unfold sdX; simp; omega
      · unfold sdY; simp; omega
      · rw [show (c - 16) / 16 = c / 16 - 1 by omega, show (c - 16) % 16 = c % 16 by omega]; omega
      · rw [show (c - 16) / 16 = c / 16 - 1 by omega, show (c - 16) % 16 = c % 16 by omega]; omega
    · by_cases hy : ((c % 16 : Nat) : Int) < rD p r / 2
      · refine go (c + 1) 2 (by omega) (by omega) ⟨?_, ?_⟩ ?_ ?_
        · unfold sdX; simp; omega
        · unfold sdY; simp; omega
        · rw [show (c + 1) / 16 = c / 16 by omega, show (c + 1) % 16 = c % 16 + 1 by omega]; omega
        · rw [show (c + 1) / 16 = c / 16 by omega, show (c + 1) % 16 = c % 16 + 1 by omega]; omega
      · refine go (c - 1) 3 (by omega) (by omega) ⟨?_, ?_⟩ ?_ ?_
        · unfold sdX; simp; omega
        · unfold sdY; simp; omega
        · rw [show (c - 1) / 16 = c / 16 by omega, show (c - 1) % 16 = c % 16 - 1 by omega]; omega
        · rw [show (c - 1) / 16 = c / 16 by omega, show (c - 1) % 16 = c % 16 - 1 by omega]; omega
theorem m_apart {r o : Nat} (hW : WF (V 406)) (hr : (r : Int) < V 406 3) (ho : (o : Int) < V 406 3) (h : ∀ V', Fr mLk V V' → Q (.inl (some (vi (apF (V 406) r o)))) V' D) : RY d 189 0 [vr 405, vi (r : Int), vi (o : Int), vr 0, vr 0, vr 0, vr 0, vr 0, vr 0, vr 0] [] V D Q := by
  obtain ⟨p, hp⟩ : ∃ p, p = V 406 := ⟨_, rfl⟩
  rw [← hp] at hW hr ho h
  obtain ⟨r5, hw, hdd⟩ := hW.room hr
  obtain ⟨o5, hw2, hdd2⟩ := hW.room ho
  refine u_189_0 ?_
  rw [yr133_0 o5, yr133_0 r5, yr133_1 o5, yr133_1 r5, ← hp, tdiv_nn (by omega), tdiv_nn (by omega), tdiv_nn (by omega), tdiv_nn (by omega), wr_id (x := rW p r / 2) (by omega) (by omega), wr_id (x := rD p r / 2) (by omega) (by omega), wr_id (x := rW p o / 2) (by omega) (by omega), wr_id (x := rD p o / 2) (by omega) (by omega), wr_id (x := rW p o / 2 - rW p r / 2) (by omega) (by omega), wr_id (x := rD p o / 2 - rD p r / 2) (by omega) (by omega)]
  refine ⟨yg133 o5 (by omega), yg133 r5 (by omega), yg133 o5 (by omega), yg133 r5 (by omega), ?_⟩
  obtain ⟨dx, hdx⟩ : ∃ dx, dx = rW p o / 2 - rW p r / 2 := ⟨_, rfl⟩
  obtain ⟨dy, hdy⟩ : ∃ dy, dy = rD p o / 2 - rD p r / 2 := ⟨_, rfl⟩
  rw [← hdx, ← hdy]
  have f6 : ∀ {V1 : xF}, Fr mLk V V1 → V1 406 = p := fun F => by rw [F.at_ 406 (by decide), hp]
  -- a place of numbers
  have pXY : ∀ k : Nat, k < 256 → wr ((k : Int).tdiv 16) = ((k / 16 : Nat) : Int) ∧ (k : Int).tmod 16 = ((k % 16 : Nat) : Int) := by
    intro k hk
    rw [tdiv_nn (by omega), tmod_nn (by omega), wr_id (by omega) (by omega)]
    omega
  have alk : ∀ k : Nat, k < 256 → inB p r o k → isPl p r ((k / 16 : Nat) : Int) ((k % 16 : Nat) : Int) ∧ isPl p o (((k / 16 : Nat) : Int) + dx) (((k % 16 : Nat) : Int) + dy) ∧ hearT p r ((k / 16 : Nat) : Int) ((k % 16 : Nat) : Int) = hOff p r (oX p r k) (oY p r k) ∧ hearT p o (((k / 16 : Nat) : Int) + dx) (((k % 16 : Nat) : Int) + dy) = hOff p o (oX p r k) (oY p r k) := by
    intro k hk hb
    have q1 : rW p r / 2 + oX p r k = ((k / 16 : Nat) : Int) := by unfold oX; omega
    have q2 : rD p r / 2 + oY p r k = ((k % 16 : Nat) : Int) := by unfold oY; omega
    have q3 : rW p o / 2 + oX p r k = ((k / 16 : Nat) : Int) + dx := by unfold oX; omega
    have q4 : rD p o / 2 + oY p r k = ((k % 16 : Nat) : Int) + dy := by unfold oY; omega
    unfold inB bothP at hb
    unfold hOff
    rw [q1, q2, q3, q4] at hb ⊢
    exact ⟨hb.1, hb.2, rfl, rfl⟩
  -- one ring of places
  have phaseB : ∀ (n : Nat) (V1 : xF), n ≤ 6 → Fr mLk V V1 → (∀ c, c < 256 → V1 416 c = cmF p r o n (fun _ => False) c) → (∀ V2 v6 v7 v8 v9, Fr mLk V V2 → (∀ c, c < 256 → V2 416 c = cmF p r o (n + 1) (fun _ => False) c) → RY d 189 91 [vr 405, vi (r : Int), vi (o : Int), vi dx, vi dy, vi (((n + 1 : Nat)) : Int), v6, v7, v8, v9] [] V2 D Q) → ∀ v7 v8 v9, RY d 189 167 [vr 405, vi (r : Int), vi (o : Int), vi dx, vi dy, vi (n : Int), vi 0, v7, v8, v9] [] V1 D Q := by
    intro n V1 hn F1 hS hx
    -- told so far: those beside k' < k, or k on sides < s
    have hP : ∀ (P P' : Nat → Prop) (c : Nat), (P c ↔ P' c) → cmF p r o n P c = cmF p r o n P' c := by
      intro P P' c hPP
      have : P c = P' c := propext hPP
      unfold cmF
      rw [this]
    have at_n : ∀ (P : Nat → Prop) (k : Nat), cmF p r o n P k = (n : Int) ↔ (inB p r o k ∧ dsB p r k = n) := by
      intro P k
      unfold cmF
      by_cases h1 : inB p r o k ∧ dsB p r k ≤ n
      · rw [if_pos h1]
        exact ⟨fun h => ⟨h1.1, by omega⟩, fun h => by rw [h.2]⟩
      · rw [if_neg h1]
        constructor
        · intro h
          by_cases h2 : inB p r o k ∧ dsB p r k = n + 1 ∧ P k
          · rw [if_pos h2] at h; omega
          · rw [if_neg h2] at h; omega
        · intro h; exact absurd ⟨h.1, by omega⟩ h1
    have sides : ∀ (c s k : Nat) (V2 : xF) (v8 v9 : xV), s + c = 4 → k < 256 → inB p r o k → dsB p r k = n → Fr mLk V V2 → (∀ t, t < 256 → V2 416 t = cmF p r o n (fun t => ∃ k' s', k' < 256 ∧ s' < 4 ∧ (k' < k ∨ (k' = k ∧ s' < s)) ∧ inB p r o k' ∧ dsB p r k' = n ∧ nxB t k' s') t) → (∀ V2 v7 v8 v9, Fr mLk V V2 → (∀ t, t < 256 → V2 416 t = cmF p r o n (fun t => ∃ k' s', k' < 256 ∧ s' < 4 ∧ (k' < k ∨ k' = k) ∧ inB p r o k' ∧ dsB p r k' = n ∧ nxB t k' s') t) → RY d 189 167 [vr 405, vi (r : Int), vi (o : Int), vi dx, vi dy, vi (n : Int), vi (((k + 1 : Nat)) : Int), v7, v8, v9] [] V2 D Q) → RY d 189 193 [vr 405, vi (r : Int), vi (o : Int), vi dx, vi dy, vi (n : Int), vi (k : Int), vi (s : Int), v8, v9] [] V2 D Q := by
      intro c
      induction c with
      | zero =>
        intro s k V2 v8 v9 hs hk hb hd F2 hC hx2
        refine u_189_193 ⟨fun _ => ?_, fun h5 => by omega⟩
        rw [wr_id (by omega) (by omega)]
        refine hx2 V2 _ _ _ F2 fun t ht => ?_
        rw [hC t ht]
        refine hP _ _ t ⟨?_, ?_⟩
        · rintro ⟨k', s', a1, a2, a3, a4⟩; exact ⟨k', s', a1, a2, by omega, a4⟩
        · rintro ⟨k', s', a1, a2, a3, a4⟩; exact ⟨k', s', a1, a2, by omega, a4⟩
      | succ c ih =>
        intro s k V2 v8 v9 hs hk hb hd F2 hC hx2
        have h2 := f6 F2
        have hsd := sd_b (s : Int)
        have hXY := pXY k hk
        have hbk := alk k hk hb
        have b1 := hbk.1.1
        have b2 := hbk.1.2
        have b3 := hbk.2.1.1
        have b4 := hbk.2.1.2
        -- go on with the next side, the cells being as they must
        have nxt : ∀ (V3 : xF) (v8 v9 : xV), Fr mLk V V3 → (∀ t, t < 256 → V3 416 t = cmF p r o n (fun t => ∃ k' s', k' < 256 ∧ s' < 4 ∧ (k' < k ∨ (k' = k ∧ s' < s + 1)) ∧ inB p r o k' ∧ dsB p r k' = n ∧ nxB t k' s') t) → RY d 189 193 [vr 405, vi (r : Int), vi (o : Int), vi dx, vi dy, vi (n : Int), vi (k : Int), vi (wr ((s : Int) + 1)), v8, v9] [] V3 D Q := by
          intro V3 v8 v9 F3 hC3
          rw [wr_id (by omega) (by omega)]
          exact ih (s + 1) k V3 v8 v9 (by omega) hk hb hd F3 hC3 hx2
        -- nothing new
        have same : ∀ (v8 v9 : xV), (∀ t, t < 256 → inB p r o t → dsB p r t = n + 1 → nxB t k s → V2 416 t = ((n + 1 : Nat) : Int)) → RY d 189 193 [vr 405, vi (r : Int), vi (o : Int), vi dx, vi dy, vi (n : Int), vi (k : Int), vi (wr ((s : Int) + 1)), v8, v9] [] V2 D Q := by
          intro v8 v9 hno
          refine nxt V2 v8 v9 F2 fun t ht => ?_
          by_cases hq : inB p r o t ∧ dsB p r t = n + 1 ∧ nxB t k s
          · rw [hno t ht hq.1 hq.2.1 hq.2.2]
            unfold cmF
            rw [if_neg (by omega), if_pos ⟨hq.1, hq.2.1, k, s, hk, by omega, by omega, hb, hd, hq.2.2⟩]
          · rw [hC t ht]
            unfold cmF
            by_cases h3 : inB p r o t ∧ dsB p r t ≤ n
            · rw [if_pos h3, if_pos h3]
            · rw [if_neg h3, if_neg h3]
              congr 1
              refine propext ⟨?_, ?_⟩
              · rintro ⟨a1, a2, k', s', a3, a4, a5, a6⟩; exact ⟨a1, a2, k', s', a3, a4, by omega, a6⟩
              · rintro ⟨a1, a2, k', s', a3, a4, a5, a6, a7, a8⟩
                by_cases e : k' = k ∧ s' = s
                · obtain ⟨e1, e2⟩ := e
                  subst e1 e2
                  exact absurd ⟨a1, a2, a8⟩ hq
                · exact ⟨a1, a2, k', s', a3, a4, by omega, a6, a7, a8⟩
        refine u_189_193 ⟨fun h5 => by omega, fun _ => ?_⟩
        rw [(yrSd (s : Int)).1, (yrSd (s : Int)).2, hXY.1, hXY.2]
        rw [wr_id (x := ((k / 16 : Nat) : Int) + sdX (s : Int)) (by omega) (by omega), wr_id (x := ((k % 16 : Nat) : Int) + sdY (s : Int)) (by omega) (by omega), wr_id (x := ((k / 16 : Nat) : Int) + sdX (s : Int) + dx) (by omega) (by omega), wr_id (x := ((k % 16 : Nat) : Int) + sdY (s : Int) + dy) (by omega) (by omega), wr_id (x := 16 * (((k / 16 : Nat) : Int) + sdX (s : Int))) (by omega) (by omega), wr_id (x := 16 * (((k / 16 : Nat) : Int) + sdX (s : Int)) + (((k % 16 : Nat) : Int) + sdY (s : Int))) (by omega) (by omega)]
        have y1 := yr164 (V := V2) (D := D) (r := r) (x := ((k / 16 : Nat) : Int) + sdX (s : Int)) (y := ((k % 16 : Nat) : Int) + sdY (s : Int)) (by rw [h2]; exact hW) (by rw [h2]; exact hr)
        have y2 := yr164 (V := V2) (D := D) (r := o) (x := ((k / 16 : Nat) : Int) + sdX (s : Int) + dx) (y := ((k % 16 : Nat) : Int) + sdY (s : Int) + dy) (by rw [h2]; exact hW) (by rw [h2]; exact ho)
        rw [h2] at y1 y2
        refine ⟨y1.1, ?_⟩
        rw [y1.2]
        by_cases g1 : (1 ≤ ((k / 16 : Nat) : Int) + sdX (s : Int) ∧ ((k / 16 : Nat) : Int) + sdX (s : Int) < rW p r) ∧ (1 ≤ ((k % 16 : Nat) : Int) + sdY (s : Int) ∧ ((k % 16 : Nat) : Int) + sdY (s : Int) < rD p r)
        · rw [if_pos g1]
          refine ⟨fun h5 => absurd h5 (by decide), fun _ => ⟨y2.1, ?_⟩⟩
          rw [y2.2]
          by_cases g2 : (1 ≤ ((k / 16 : Nat) : Int) + sdX (s : Int) + dx ∧ ((k / 16 : Nat) : Int) + sdX (s : Int) + dx < rW p o) ∧ (1 ≤ ((k % 16 : Nat) : Int) + sdY (s : Int) + dy ∧ ((k % 16 : Nat) : Int) + sdY (s : Int) + dy < rD p o)
          · rw [if_pos g2]
            refine ⟨fun h5 => absurd h5 (by decide), fun _ => ⟨by omega, ?_⟩⟩
            -- the cell beside
            obtain ⟨t, ht⟩ : ∃ t : Nat, t = (16 * (((k / 16 : Nat) : Int) + sdX (s : Int)) + (((k % 16 : Nat) : Int) + sdY (s : Int))).toNat := ⟨_, rfl⟩
            rw [← ht]
            have t1 : ((t / 16 : Nat) : Int) = ((k / 16 : Nat) : Int) + sdX (s : Int) := by omega
            have t2 : ((t % 16 : Nat) : Int) = ((k % 16 : Nat) : Int) + sdY (s : Int) := by omega
            have t3 : t < 256 := by omega
            have hbt : inB p r o t := by
              unfold inB bothP isPl oX oY
              rw [t1, t2]
              omega
            have hdt : dsB p r t ≤ n + 1 := by
              unfold dsB oX oY at hd ⊢
              rw [t1, t2]
              have : (sdX (s : Int)).natAbs + (sdY (s : Int)).natAbs ≤ 1 := by
                unfold sdX sdY
                (repeat' split) <;> omega
              omega
            have uniq : ∀ t', t' < 256 → nxB t' k s → t' = t := by
              intro t' h1 h3
              unfold nxB at h3
              omega
            refine ⟨fun h5 => same _ _ (fun t' ht' hb' hd' hn' => ?_), fun h5 => ⟨by omega, ?_⟩⟩
            · have e := uniq t' ht' hn'
              subst e
              rw [hC t' ht'] at h5 ⊢
              unfold cmF at h5 ⊢
              rw [if_neg (by omega)] at h5 ⊢
              by_cases h3 : inB p r o t' ∧ dsB p r t' = n + 1 ∧ (∃ k' s', k' < 256 ∧ s' < 4 ∧ (k' < k ∨ (k' = k ∧ s' < s)) ∧ inB p r o k' ∧ dsB p r k' = n ∧ nxB t' k' s')
              · rw [if_pos h3]
              · rw [if_neg h3] at h5; exact absurd rfl h5
            · rintro V3 rfl
              rw [wr_id (x := (n : Int) + 1) (by omega) (by omega)]
              refine nxt _ _ _ (F2.tr (Fr.up (by decide))) fun t' ht' => ?_
              rw [up2_a]
              by_cases e : t' = t
              · rw [if_pos e, e]
                have hdt2 : dsB p r t = n + 1 := by
                  rw [hC t t3] at h5
                  unfold cmF at h5
                  by_cases h3 : inB p r o t ∧ dsB p r t ≤ n
                  · rw [if_pos h3] at h5; omega
                  · have : ¬ dsB p r t ≤ n := fun h => h3 ⟨hbt, h⟩
                    omega
                unfold cmF
                rw [if_neg (by omega), if_pos ⟨hbt, hdt2, k, s, hk, by omega, by omega, hb, hd, t1, t2⟩]
                omega
              · rw [if_neg e, hC t' ht']
                refine hP _ _ t' ⟨?_, ?_⟩
                · rintro ⟨k', s', a3, a4, a5, a6⟩; exact ⟨k', s', a3, a4, by omega, a6⟩
                · rintro ⟨k', s', a3, a4, a5, a6, a7, a8⟩
                  by_cases e2 : k' = k ∧ s' = s
                  · obtain ⟨e1, e2⟩ := e2
                    subst e1 e2
                    exact absurd (uniq t' ht' a8) e
                  · exact ⟨k', s', a3, a4, by omega, a6, a7, a8⟩
          · rw [if_neg g2]
            refine ⟨fun _ => same _ _ (fun t ht hb' hd' hn' => ?_), fun h5 => absurd rfl h5⟩
            unfold inB bothP isPl oX oY at hb'
            unfold nxB at hn'
            rw [hn'.1, hn'.2] at hb'
            exact absurd (by omega) g2
        · rw [if_neg g1]
          refine ⟨fun _ => same _ _ (fun t ht hb' hd' hn' => ?_), fun h5 => absurd rfl h5⟩
          unfold inB bothP isPl oX oY at hb'
          unfold nxB at hn'
          rw [hn'.1, hn'.2] at hb'
          exact absurd (by omega) g1
    have loop : ∀ (c k : Nat) (V2 : xF) (v7 v8 v9 : xV), k + c = 256 → Fr mLk V V2 → (∀ t, t < 256 → V2 416 t = cmF p r o n (fun t => ∃ k' s', k' < 256 ∧ s' < 4 ∧ k' < k ∧ inB p r o k' ∧ dsB p r k' = n ∧ nxB t k' s') t) → RY d 189 167 [vr 405, vi (r : Int), vi (o : Int), vi dx, vi dy, vi (n : Int), vi (k : Int), v7, v8, v9] [] V2 D Q := by
      intro c
      induction c with
      | zero =>
        intro k V2 v7 v8 v9 hk F2 hC
        refine u_189_167 ⟨fun _ => ?_, fun h5 => by omega⟩
        rw [wr_id (by omega) (by omega)]
        refine hx V2 _ _ _ _ F2 fun t ht => ?_
        rw [hC t ht]
        unfold cmF
        by_cases h3 : inB p r o t ∧ dsB p r t ≤ n
        · rw [if_pos h3, if_pos ⟨h3.1, by omega⟩]
        · rw [if_neg h3]
          by_cases h4 : inB p r o t ∧ dsB p r t = n + 1
          · obtain ⟨k', s', a1, a2, a3, a4, a5⟩ := inB_near hW hr ho ht h4.1 h4.2
            rw [if_pos ⟨h4.1, h4.2, k', s', a1, a2, by omega, a3, a4, a5⟩, if_pos ⟨h4.1, by omega⟩, h4.2]
          · rw [if_neg (fun h5 => h4 ⟨h5.1, h5.2.1⟩), if_neg (fun h5 => by
              by_cases h6 : dsB p r t ≤ n
              · exact h3 ⟨h5.1, h6⟩
              · exact h4 ⟨h5.1, by omega⟩), if_neg (fun h5 => h5.2.2.elim)]
      | succ c ih =>
        intro k V2 v7 v8 v9 hk F2 hC
        refine u_189_167 ⟨fun h5 => by omega, fun _ => ⟨by omega, ?_⟩⟩
        rw [nn_toNat]
        refine ⟨fun h5 => ?_, fun h5 => ?_⟩
        · rw [hC k (by omega), at_n] at h5
          refine sides 4 0 k V2 _ _ (by omega) (by omega) h5.1 h5.2 F2 (fun t ht => ?_) (fun V3 v7 v8 v9 F3 hC3 => ih (k + 1) V3 v7 v8 v9 (by omega) F3 (fun t ht => ?_))
          · rw [hC t ht]
            refine hP _ _ t ⟨?_, ?_⟩
            · rintro ⟨k', s', a3, a4, a5, a6⟩; exact ⟨k', s', a3, a4, by omega, a6⟩
            · rintro ⟨k', s', a3, a4, a5, a6⟩; exact ⟨k', s', a3, a4, by omega, a6⟩
          · rw [hC3 t ht]
            refine hP _ _ t ⟨?_, ?_⟩
            · rintro ⟨k', s', a3, a4, a5, a6⟩; exact ⟨k', s', a3, a4, by omega, a6⟩
            · rintro ⟨k', s', a3, a4, a5, a6⟩; exact ⟨k', s', a3, a4, by omega, a6⟩
        · rw [wr_id (by omega) (by omega)]
          rw [hC k (by omega), ne_eq, at_n] at h5
          refine ih (k + 1) V2 v7 v8 v9 (by omega) F2 (fun t ht => ?_)
          rw [hC t ht]
          refine hP _ _ t ⟨?_, ?_⟩
          · rintro ⟨k', s', a3, a4, a5, a6⟩; exact ⟨k', s', a3, a4, by omega, a6⟩
          · rintro ⟨k', s', a3, a4, a5, a6, a7, a8⟩
            by_cases e : k' = k
            · subst e; exact absurd ⟨a6, a7⟩ h5
            · exact ⟨k', s', a3, a4, by omega, a6, a7, a8⟩
    intro v7 v8 v9
    refine loop 256 0 V1 v7 v8 v9 (by omega) F1 (fun t ht => ?_)
    rw [hS t ht]
    refine hP _ _ t ⟨fun h => h.elim, ?_⟩
    rintro ⟨k', s', a3, a4, a5, a6⟩
    omega
  have phaseA : ∀ (n : Nat), n ≤ 6 → ∀ (c k : Nat) (V1 : xF) (v7 v8 v9 : xV), k + c = 256 → Fr mLk V V1 → (∀ c, c < 256 → V1 416 c = cmF p r o n (fun _ => False) c) → (∀ e' n' : Int, e'.natAbs + n'.natAbs < n → ¬ told p r o e' n') → (∀ k', k' < k → inB p r o k' → dsB p r k' = n → ¬ told p r o (oX p r k') (oY p r k')) → (∀ V2 v7 v8 v9, Fr mLk V V2 → (∀ c, c < 256 → V2 416 c = cmF p r o n (fun _ => False) c) → (∀ e' n' : Int, e'.natAbs + n'.natAbs < n + 1 → ¬ told p r o e' n') → RY d 189 167 [vr 405, vi (r : Int), vi (o : Int), vi dx, vi dy, vi (n : Int), vi 0, v7, v8, v9] [] V2 D Q) → RY d 189 101 [vr 405, vi (r : Int), vi (o : Int), vi dx, vi dy, vi (n : Int), vi (k : Int), v7, v8, v9] [] V1 D Q := by
    intro n hn c
    induction c with
    | zero =>
      intro k V1 v7 v8 v9 hk F1 hS h1 h2 hx
      refine u_189_101 ⟨fun _ => hx V1 _ _ _ F1 hS (fun e' n' hlt ht => ?_), fun h5 => by omega⟩
      by_cases hlt2 : e'.natAbs + n'.natAbs < n
      · exact h1 e' n' hlt2 ht
      · have hb := ht.1
        unfold bothP isPl at hb
        -- the place of these numbers
        obtain ⟨t, e⟩ : ∃ t : Nat, t = (16 * (rW p r / 2 + e') + (rD p r / 2 + n')).toNat := ⟨_, rfl⟩
        have ex : oX p r t = e' := by unfold oX; omega
        have ey : oY p r t = n' := by unfold oY; omega
        have t3 : t < 256 := by omega
        refine h2 t (by omega) ?_ ?_ (by rw [ex, ey]; exact ht)
        · unfold inB; rw [ex, ey]; exact ht.1
        · unfold dsB; rw [ex, ey]; omega
    | succ c ih =>
      intro k V1 v7 v8 v9 hk F1 hS h1 h2 hx
      refine u_189_101 ⟨fun h5 => by omega, fun _ => ⟨by omega, ?_⟩⟩
      rw [nn_toNat, hS k (by omega)]
      have hXY := pXY k (by omega)
      rw [hXY.1, hXY.2, wr_id (x := (k : Int) + 1) (by omega) (by omega)]
      refine ⟨fun h5 => ?_, fun h5 => ?_⟩
      · refine ih (k + 1) V1 v7 v8 v9 (by omega) F1 hS h1 (fun k' hk' hb' hd' => ?_) hx
        by_cases e : k' = k
        · subst e
          exfalso
          apply h5
          unfold cmF
          rw [if_pos ⟨hb', by omega⟩, hd']
        · exact h2 k' (by omega) hb' hd'
      · have hb : inB p r o k ∧ dsB p r k = n := by
          unfold cmF at h5
          by_cases h3 : inB p r o k ∧ dsB p r k ≤ n
          · rw [if_pos h3] at h5; exact ⟨h3.1, by omega⟩
          · rw [if_neg h3, if_neg (fun h4 => h4.2.2.elim)] at h5; omega
        have hal := alk k (by omega) hb.1
        have b1 := hal.1.1
        have b2 := hal.1.2
        have b3 := hal.2.1.1
        have b4 := hal.2.1.2
        have e6 := f6 F1
        rw [wr_id (x := ((k / 16 : Nat) : Int) + dx) (by omega) (by omega), wr_id (x := ((k % 16 : Nat) : Int) + dy) (by omega) (by omega)]
        refine m_alike (by rw [e6]; exact hW) (by rw [e6]; exact hr) (by rw [e6]; exact ho) (by rw [e6]; exact hal.1) (by rw [e6]; exact hal.2.1) ?_
        rw [e6, hal.2.2.1, hal.2.2.2]
        intro V2 F2
        have F12 : Fr mLk V V2 := F1.tr (F2.sub (by decide))
        cases hq : eqT (hOff p r (oX p r k) (oY p r k)) (hOff p o (oX p r k) (oY p r k)) 64 with
        | true =>
          refine u_189_152 ⟨fun _ => ?_, fun h6 => absurd h6 (by decide)⟩
          rw [wr_id (by omega) (by omega)]
          refine ih (k + 1) V2 v7 v8 v9 (by omega) F12 (fun c hc => by rw [F2.at_ 416 (by decide)]; exact hS c hc) h1 (fun k' hk' hb' hd' => ?_) hx
          by_cases e : k' = k
          · subst e
            intro ht
            rw [ht.2] at hq
            cases hq
          · exact h2 k' (by omega) hb' hd'
        | false =>
          refine u_189_152 ⟨fun h6 => absurd rfl h6, fun _ => ?_⟩
          have hap : isAp p r o (n : Int) := Or.inr ⟨n, rfl, hn, ⟨oX p r k, oY p r k, hb.2, hb.1, hq⟩, h1⟩
          rw [hap.eq]
          exact h V2 F12
  have main : ∀ (c n : Nat) (V1 : xF) (v6 v7 v8 v9 : xV), n + c = 7 → Fr mLk V V1 → (∀ c, c < 256 → V1 416 c = cmF p r o n (fun _ => False) c) → (∀ e' n' : Int, e'.natAbs + n'.natAbs < n → ¬ told p r o e' n') → RY d 189 91 [vr 405, vi (r : Int), vi (o : Int), vi dx, vi dy, vi (n : Int), v6, v7, v8, v9] [] V1 D Q := by
    intro c
    induction c with
    | zero =>
      intro n V1 v6 v7 v8 v9 hn F1 hS h1
      refine u_189_91 ⟨fun _ => ?_, fun h5 => by omega⟩
      have hap : isAp p r o (-1) := Or.inl ⟨rfl, fun e' n' hh => h1 e' n' (by omega)⟩
      rw [hap.eq]
      exact h V1 F1
    | succ c ih =>
      intro n V1 v6 v7 v8 v9 hn F1 hS h1
      refine u_189_91 ⟨fun h5 => by omega, fun _ => ?_⟩
      refine phaseA n (by omega) 256 0 V1 v7 v8 v9 (by omega) F1 hS h1 (fun k' hk' => by omega) ?_
      intro V2 v7 v8 v9 F2 hS2 h2
      exact phaseB n V2 (by omega) F2 hS2 (fun V3 v6 v7 v8 v9 F3 hS3 => ih (n + 1) V3 v6 v7 v8 v9 (by omega) F3 hS3 h2) v7 v8 v9
  have init : ∀ (c k : Nat) (V1 : xF), k + c = 256 → Fr mLk V V1 → (∀ t, t < k → V1 416 t = -1) → RY d 189 40 [vr 405, vi (r : Int), vi (o : Int), vi dx, vi dy, vi (k : Int), vr 0, vr 0, vr 0, vr 0] [] V1 D Q := by
    intro c
    induction c with
    | zero =>
      intro k V1 hk F1 h1
      refine u_189_40 ⟨fun _ => ?_, fun h5 => by omega⟩
      have e6 := f6 F1
      rw [yr133_0 r5, yr133_1 r5, e6, tdiv_nn (by omega), tdiv_nn (by omega), wr_id (x := rW p r / 2) (by omega) (by omega), wr_id (x := rD p r / 2) (by omega) (by omega), wr_id (x := 16 * (rW p r / 2)) (by omega) (by omega), wr_id (x := 16 * (rW p r / 2) + rD p r / 2) (by omega) (by omega)]
      refine ⟨yg133 r5 (by omega), yg133 r5 (by omega), by omega, ?_⟩
      rintro V2 rfl
      refine main 7 0 _ _ _ _ _ (by omega) (F1.tr (Fr.up (by decide))) (fun t ht => ?_) (fun e' n' hh => by omega)
      rw [up2_a]
      by_cases e : t = (16 * (rW p r / 2) + rD p r / 2).toNat
      · rw [if_pos e]
        have ex : oX p r t = 0 := by unfold oX; omega
        have ey : oY p r t = 0 := by unfold oY; omega
        have hb : inB p r o t := by unfold inB bothP isPl; rw [ex, ey]; omega
        have hd : dsB p r t = 0 := by unfold dsB; rw [ex, ey]; rfl
        unfold cmF
        rw [if_pos ⟨hb, by omega⟩, hd]
        rfl
      · rw [if_neg e, h1 t (by omega)]
        unfold cmF
        rw [if_neg (fun hh => ?_), if_neg (fun hh => hh.2.2.elim)]
        have := hh.2
        unfold dsB oX oY at this
        omega
    | succ c ih =>
      intro k V1 hk F1 h1
      refine u_189_40 ⟨fun h5 => by omega, fun _ => ⟨by omega, ?_⟩⟩
      rintro V2 rfl
      rw [nn_toNat, wr_id (by omega) (by omega)]
      refine ih (k + 1) _ (by omega) (F1.tr (Fr.up (by decide))) (fun t ht => ?_)
      rw [up2_a]
      by_cases e : t = k
      · rw [if_pos e]
      · rw [if_neg e]; exact h1 t (by omega)
  exact init 256 0 V (by omega) Fr.rf (fun t ht => by omega)
noncomputable def aApart (p : Rw) (r o : Int) : aRes := aTwo p r o (.inl (apF p r.toNat o.toNat))
theorem ca_apart {r o : Int} (hS : St V 81 p) (hB : V 2 = xback5) (hW : WF p) (h : ∀ V' D', Cor V V' → CorD D D' → Q (cRes (aApart p r o)) V' D') : RY d 188 0 [vr 70, vi r, vi o] [] V D Q := by
  unfold aApart at h
  refine u_188_0 (c_needTwo hS (fun h2 hn => ?_) (fun h2 => ⟨rfl, by rw [aTwo_n h2] at h; exact h V _ Cor.rf CorD.exc⟩) (fun h2 he => ⟨rfl, by rw [aTwo_e h2 he] at h; exact h V _ Cor.rf CorD.exc⟩))
  rw [aTwo_y h2 hn] at h
  obtain ⟨r5, er⟩ := hW.r5 h2.1
  obtain ⟨o5, eo⟩ := hW.r5 h2.2
  refine u_188_6 ?_
  rw [← er, ← eo]
  exact c_apart hS hB hW (by rw [er]; exact h2.1.2) (by rw [eo]; exact h2.2.2) (fun V' F => u_188_19 (h V' D (F.cor (by decide)) CorD.rf))
theorem ma_apart {r o : Int} (hW : WF (V 406)) (h : ∀ V', V' 405 0 = mCd 2 (aApart (V 406) r o) → Cor V V' → Q (.inl (some (vi (mVal (aApart (V 406) r o))))) V' D) : RY d 56 0 [vr 405, vi r, vi o] [] V D Q := by
  unfold aApart at h
  refine u_56_0 (m_areTwo hW (fun h2 hn V1 t1 C1 F1 => ?_) (fun h2 V1 t1 C1 => ?_) (fun h2 he V1 t1 C1 => ?_))
  · rw [aTwo_y h2 hn] at h
    have e6 : V1 406 = V 406 := C1.at_ 406 rfl
    obtain ⟨r5, er⟩ := hW.r5 h2.1
    obtain ⟨o5, eo⟩ := hW.r5 h2.2
    refine u_56_6 ⟨fun _ => ?_, fun h5 => by omega⟩
    rw [← er, ← eo]
    refine m_apart (by rw [e6]; exact hW) (by rw [e6, er]; exact h2.1.2) (by rw [e6, eo]; exact h2.2.2) ?_
    rw [e6]
    intro V2 F2
    exact u_56_23 (h V2 (by rw [F2.at_ 405 (by decide)]; exact t1) (C1.tr (F2.cor (by decide))))
  · rw [aTwo_n h2] at h
    exact u_56_6 ⟨fun h5 => by omega, fun _ => h V1 t1 C1⟩
  · rw [aTwo_e h2 he] at h
    exact u_56_6 ⟨fun h5 => by omega, fun _ => h V1 t1 C1⟩
end APART
