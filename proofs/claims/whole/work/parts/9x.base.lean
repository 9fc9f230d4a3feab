/-! ===== THE LOOP'S CALLS: WHAT THEY HAVE IN COMMON ===== -/
def eIn (S : List Nat) (a : aRes) : Prop := ∀ E, a = .inr E → E ∈ S
theorem eIn_l {S : List Nat} {x : Int} : eIn S (.inl x) := fun E h => nomatch h
theorem eIn_r {S : List Nat} {E : Nat} (h : E ∈ S) : eIn S (.inr E) := fun E' h' => by cases h'; exact h
theorem eIn_ite {S : List Nat} {c : Prop} {i : Decidable c} {a b : aRes} (h1 : eIn S a) (h2 : eIn S b) : eIn S (@ite _ c i a b) := by
  by_cases h : c
  · rw [if_pos h]; exact h1
  · rw [if_neg h]; exact h2
theorem eIn_aif {S : List Nat} {c : Prop} {a b : aRes} (h1 : eIn S a) (h2 : eIn S b) : eIn S (aIf c a b) := eIn_ite h1 h2
theorem eIn_sif {S : List Nat} {c : Prop} {a b : aAct} (h1 : eIn S (aR a)) (h2 : eIn S (aR b)) : eIn S (aR (sIf c a b)) := by
  by_cases h : c
  · rw [sIf_y h]; exact h1
  · rw [sIf_n h]; exact h2
theorem eIn_sl {S : List Nat} {x : Int × Rw} : eIn S (aR (.inl x)) := fun E h => nomatch h
theorem eIn_sr {S : List Nat} {E : Nat} (h : E ∈ S) : eIn S (aR (.inr E)) := fun E' h' => by cases h'; exact h
theorem e_room {p : Rw} {ls : List Ln} {r w : Int} : eIn [2, 4] (aRoom p ls r w) := by unfold aRoom; repeat' (first | exact eIn_l | exact eIn_sl | exact eIn_r (by decide) | exact eIn_sr (by decide) | apply eIn_aif | apply eIn_sif | apply eIn_ite)
theorem e_tenant {p : Rw} {ls : List Ln} {r w : Int} : eIn [2, 4] (aTenant p ls r w) := by unfold aTenant; repeat' (first | exact eIn_l | exact eIn_sl | exact eIn_r (by decide) | exact eIn_sr (by decide) | apply eIn_aif | apply eIn_sif | apply eIn_ite)
theorem e_esteem {p : Rw} {ls : List Ln} {r w : Int} : eIn [2] (aEsteem p ls r w) := by unfold aEsteem; repeat' (first | exact eIn_l | exact eIn_sl | exact eIn_r (by decide) | exact eIn_sr (by decide) | apply eIn_aif | apply eIn_sif | apply eIn_ite)
theorem e_refuses {p : Rw} {ls : List Ln} {r w : Int} : eIn [2] (aRefuses p ls r w) := by unfold aRefuses; repeat' (first | exact eIn_l | exact eIn_sl | exact eIn_r (by decide) | exact eIn_sr (by decide) | apply eIn_aif | apply eIn_sif | apply eIn_ite)
theorem e_isOpen {p : Rw} {r w : Int} : eIn [2, 0] (aOpen p r w) := by unfold aOpen aTwo; repeat' (first | exact eIn_l | exact eIn_sl | exact eIn_r (by decide) | exact eIn_sr (by decide) | apply eIn_aif | apply eIn_sif | apply eIn_ite)
theorem e_sort {p : Rw} {r : Int} : eIn [2] (aSort p r) := by unfold aSort; repeat' (first | exact eIn_l | exact eIn_sl | exact eIn_r (by decide) | exact eIn_sr (by decide) | apply eIn_aif | apply eIn_sif | apply eIn_ite)
theorem e_log {p : Rw} {r w : Int} : eIn [4] (aLog p r w) := by unfold aLog; repeat' (first | exact eIn_l | exact eIn_sl | exact eIn_r (by decide) | exact eIn_sr (by decide) | apply eIn_aif | apply eIn_sif | apply eIn_ite)
theorem e_led {p : Rw} {r w : Int} : eIn [2] (aLed p r w) := by unfold aLed; repeat' (first | exact eIn_l | exact eIn_sl | exact eIn_r (by decide) | exact eIn_sr (by decide) | apply eIn_aif | apply eIn_sif | apply eIn_ite)
theorem e_way {p : Rw} {r w : Int} : eIn [2] (aWay p r w) := by unfold aWay; repeat' (first | exact eIn_l | exact eIn_sl | exact eIn_r (by decide) | exact eIn_sr (by decide) | apply eIn_aif | apply eIn_sif | apply eIn_ite)
theorem e_wing {p : Rw} {r : Int} : eIn [2] (aWing p r) := by unfold aWing; repeat' (first | exact eIn_l | exact eIn_sl | exact eIn_r (by decide) | exact eIn_sr (by decide) | apply eIn_aif | apply eIn_sif | apply eIn_ite)
theorem e_hangs {p : Rw} {r w x : Int} : eIn [2, 0] (aHangs p r w x) := by unfold aHangs aTwo; repeat' (first | exact eIn_l | exact eIn_sl | exact eIn_r (by decide) | exact eIn_sr (by decide) | apply eIn_aif | apply eIn_sif | apply eIn_ite)
theorem e_apart {p : Rw} {r w : Int} : eIn [2, 0] (aApart p r w) := by unfold aApart aTwo; repeat' (first | exact eIn_l | exact eIn_sl | exact eIn_r (by decide) | exact eIn_sr (by decide) | apply eIn_aif | apply eIn_sif | apply eIn_ite)
theorem e_ahead {p : Rw} {ls : List Ln} {r w : Int} : eIn [2, 0] (aAhead p ls r w) := by unfold aAhead; repeat' (first | exact eIn_l | exact eIn_sl | exact eIn_r (by decide) | exact eIn_sr (by decide) | apply eIn_aif | apply eIn_sif | apply eIn_ite)
theorem e_trial {p : Rw} {ls : List Ln} {r w : Int} : eIn [0] (aTrial p ls r w) := by unfold aTrial; repeat' (first | exact eIn_l | exact eIn_sl | exact eIn_r (by decide) | exact eIn_sr (by decide) | apply eIn_aif | apply eIn_sif | apply eIn_ite)
theorem e_span {p : Rw} {ls : List Ln} {r w : Int} : eIn [0] (aSpan p ls r w) := by unfold aSpan; repeat' (first | exact eIn_l | exact eIn_sl | exact eIn_r (by decide) | exact eIn_sr (by decide) | apply eIn_aif | apply eIn_sif | apply eIn_ite)
theorem e_earns {p : Rw} {ls : List Ln} {r w : Int} : eIn [2, 0] (aEarns p ls r w) := by unfold aEarns; repeat' (first | exact eIn_l | exact eIn_sl | exact eIn_r (by decide) | exact eIn_sr (by decide) | apply eIn_aif | apply eIn_sif | apply eIn_ite)
theorem e_rests {p : Rw} {ls : List Ln} {r w x : Int} : eIn [2, 0] (aRests p ls r w x) := by unfold aRests; repeat' (first | exact eIn_l | exact eIn_sl | exact eIn_r (by decide) | exact eIn_sr (by decide) | apply eIn_aif | apply eIn_sif | apply eIn_ite)
theorem e_lets {p : Rw} {ls : List Ln} {r : Int} : eIn [2] (aLets p ls r) := by unfold aLets; repeat' (first | exact eIn_l | exact eIn_sl | exact eIn_r (by decide) | exact eIn_sr (by decide) | apply eIn_aif | apply eIn_sif | apply eIn_ite)
theorem e_known {p : Rw} {b : Nat → Int} {r : Int} : eIn [0] (aKnown p r b) := by unfold aKnown; repeat' (first | exact eIn_l | exact eIn_sl | exact eIn_r (by decide) | exact eIn_sr (by decide) | apply eIn_aif | apply eIn_sif | apply eIn_ite)
theorem e_odds {p : Rw} {r w : Int} : eIn [0] (aOdds p r w) := by unfold aOdds; repeat' (first | exact eIn_l | exact eIn_sl | exact eIn_r (by decide) | exact eIn_sr (by decide) | apply eIn_aif | apply eIn_sif | apply eIn_ite)
theorem e_which {p : Rw} {r w x y : Int} : eIn [2] (aWh p r w x y) := by unfold aWh; repeat' (first | exact eIn_l | exact eIn_sl | exact eIn_r (by decide) | exact eIn_sr (by decide) | apply eIn_aif | apply eIn_sif | apply eIn_ite)
theorem e_hang {p : Rw} {r w x : Int} : eIn [2] (aR (aHang p r w x)) := by unfold aHang; repeat' (first | exact eIn_l | exact eIn_sl | exact eIn_r (by decide) | exact eIn_sr (by decide) | apply eIn_aif | apply eIn_sif | apply eIn_ite)
theorem e_rent {p : Rw} {r w : Int} : eIn [2, 0] (aR (aRent p r w)) := by unfold aRent; repeat' (first | exact eIn_l | exact eIn_sl | exact eIn_r (by decide) | exact eIn_sr (by decide) | apply eIn_aif | apply eIn_sif | apply eIn_ite)
theorem e_enter {p : Rw} {r : Int} : eIn [2] (aR (aEnter p r)) := by unfold aEnter; repeat' (first | exact eIn_l | exact eIn_sl | exact eIn_r (by decide) | exact eIn_sr (by decide) | apply eIn_aif | apply eIn_sif | apply eIn_ite)
theorem e_door {p : Rw} {r w x : Int} : eIn [2, 0] (aR (aDoor p r w x)) := by unfold aDoor; repeat' (first | exact eIn_l | exact eIn_sl | exact eIn_r (by decide) | exact eIn_sr (by decide) | apply eIn_aif | apply eIn_sif | apply eIn_ite)
theorem e_take {p : Rw} {r w : Int} : eIn [2, 1] (aR (aTake p r w)) := by unfold aTake; repeat' (first | exact eIn_l | exact eIn_sl | exact eIn_r (by decide) | exact eIn_sr (by decide) | apply eIn_aif | apply eIn_sif | apply eIn_ite)
theorem e_step {p : Rw} {r : Int} : eIn [2, 1] (aR (aStep p r)) := by unfold aStep; repeat' (first | exact eIn_l | exact eIn_sl | exact eIn_r (by decide) | exact eIn_sr (by decide) | apply eIn_aif | apply eIn_sif | apply eIn_ite)
theorem e_clap {p : Rw} : eIn [1] (aR (aClap p)) := by unfold aClap; repeat' (first | exact eIn_l | exact eIn_sl | exact eIn_r (by decide) | exact eIn_sr (by decide) | apply eIn_aif | apply eIn_sif | apply eIn_ite)
theorem e_days {p : Rw} {ls : List Ln} {r : Int} : eIn [0] (aR (aDays p ls r)) := by unfold aDays; repeat' (first | exact eIn_l | exact eIn_sl | exact eIn_r (by decide) | exact eIn_sr (by decide) | apply eIn_aif | apply eIn_sif | apply eIn_ite)
theorem e_ask0 {p : Rw} {r x y : Int} {F : (Nat → Int) → Int} : eIn [2] (aAsk p r x y F) := by unfold aAsk; repeat' (first | exact eIn_l | exact eIn_sl | exact eIn_r (by decide) | exact eIn_sr (by decide) | apply eIn_aif | apply eIn_sif | apply eIn_ite)
theorem e_first {p : Rw} {r x y : Int} {F : (Nat → Int) → Int} : eIn [2] (aAsk p r x y F) := e_ask0
theorem e_last {p : Rw} {r x y : Int} {F : (Nat → Int) → Int} : eIn [2] (aAsk p r x y F) := e_ask0
theorem e_loudest {p : Rw} {r x y : Int} {F : (Nat → Int) → Int} : eIn [2] (aAsk p r x y F) := e_ask0
theorem e_echo {p : Rw} {r x y : Int} {F : (Nat → Int) → Int} : eIn [2] (aAsk p r x y F) := e_ask0
theorem e_where {p : Rw} {r n : Int} {b : Nat → Int} {F : Nat → Int} : eIn [2, 0] (aTp p r n b F) := by unfold aTp; repeat' (first | exact eIn_l | exact eIn_sl | exact eIn_r (by decide) | exact eIn_sr (by decide) | apply eIn_aif | apply eIn_sif | apply eIn_ite)
theorem e_ask {p : Rw} {r n : Int} {b : Nat → Int} {F : Nat → Int} : eIn [2, 0] (aTp p r n b F) := e_where
/-- the model's code of a call with one exception -/
def cd1 (a : aRes) : Int := match a with
  | .inl _ => 0
  | .inr _ => 1
theorem xcmp_self (x : Int) : xcmp x x = 0 := by unfold xcmp; rw [if_neg (Int.lt_irrefl _), if_pos rfl]
/-- the words of a call lie in the script -/
def BB (i4 : Int) (L : Nat) : Prop := ∀ j : Int, 1 ≤ j → j ≤ 5 → (0 : Int) ≤ wr (i4 + j) ∧ wr (i4 + j) < (L : Int)
/-- the next turn -/
def NX (S : Nat → Int) (L d k : Nat) (Q : xRes → xF → yD → Prop) (i4 : Int) : Prop := ∀ (V : xF) (D : yD) (b : Nat → Int) (n : Int) (ls : List Ln) (v5 v6 : xV), Inv S L V D (k + 1) b n ls → RY d 381 23 [vr 1, vr 70, vr 405, vr 420, vi (wr (i4 + 6)), v5, v6] [] V D Q
section LOOPB
variable {S : Nat → Int} {L : Nat} {V V1 : xF} {D D1 : yD} {k : Nat} {b : Nat → Int} {n i4 : Int} {ls : List Ln}
theorem kk_1 {kd : Nat → Nat × Nat} : yK kd 1 = kd 1 := rfl
theorem kk25 (e : D.2.2.1 1 = (21, L)) : 20 ≤ (yK D.2.2.1 1).1 ∧ (yK D.2.2.1 1).1 ≤ 25 := by rw [kk_1, e]; exact ⟨by show 20 ≤ 21; decide, by show 21 ≤ 25; decide⟩
theorem kk21 (e : D.2.2.1 1 = (21, L)) : 20 ≤ (yK D.2.2.1 1).1 ∧ (yK D.2.2.1 1).1 ≤ 21 := by rw [kk_1, e]; exact ⟨by show 20 ≤ 21; decide, by show 21 ≤ 21; decide⟩
theorem kkB (e : D.2.2.1 1 = (21, L)) (hB : BB i4 L) (j : Int) (h1 : 1 ≤ j) (h5 : j ≤ 5) : (0 : Int) ≤ wr (i4 + j) ∧ wr (i4 + j) < ((yK D.2.2.1 1).2 : Int) := by rw [kk_1, e]; exact hB j h1 h5
theorem Inv.endR (h : Inv S L V D k b n ls) (hC : Cor V V1) (hD : CorD D D1) : V1 406 = V 406 ∧ V1 1 = V 1 ∧ D1.2.2.1 1 = (21, L) ∧ Ws V1 ∧ Bv V1 :=
  ⟨hC.1 406 rfl, hC.1 1 rfl, by rw [hD.2.1]; exact h.k1, h.ws.mov fun a ha => hC.1 a (core_lt (by omega)), hC.2.2.2.2.2.2 h.bv⟩
theorem Inv.endT (h : Inv S L V D k b n ls) (hC : Cor (up2 V 76 1 0) V1) (hD : CorD D D1) : V1 406 = V 406 ∧ V1 1 = V 1 ∧ D1.2.2.1 1 = (21, L) ∧ TpM V1 b n := by
  refine ⟨by rw [hC.1 406 rfl, up2_na (by decide)], by rw [hC.1 1 rfl, up2_na (by decide)], by rw [hD.2.1]; exact h.k1, ?_⟩
  obtain ⟨t1, t2, t3, t4, t5, t6⟩ := h.tp
  unfold TpM
  rw [hC.1 410 rfl, up2_na (by decide), hC.2.2.2.1, up2_na (by decide)]
  exact ⟨t2, t3, t5, t6⟩
theorem Inv.endC {A : aAct} (h : Inv S L V D k b n ls) (hC : EndC A V D V1 D1) : V1 406 = V 406 ∧ V1 1 = V 1 ∧ V1 405 6 = (((V 405 6).toNat : Nat) : Int) ∧ (V 405 6).toNat ≤ 12 ∧ D1.2.2.1 1 = (21, L) ∧ Ws V1 ∧ Bv V1 := by
  have hp := h.past
  have h1 : V 405 6 = (((V 405 6).toNat : Nat) : Int) := by have := hp.1; have := hp.2.1; omega
  have h2 : (V 405 6).toNat ≤ 12 := by have := hp.1; have := hp.2.1; omega
  cases A with
  | inr E =>
    have hC : Cor V V1 ∧ CorD D D1 := hC
    obtain ⟨a1, a2, a3, a4, a5⟩ := h.endR hC.1 hC.2
    exact ⟨a1, a2, by rw [hC.1.2.2.1]; exact h1, h2, a3, a4, a5⟩
  | inl q =>
    have hC : ActC V D V1 D1 q.2 := hC
    obtain ⟨nx, a', W, hnx, ha', e7, e8, ⟨U, hU, hW⟩, c1, c2, c3, c4, c5⟩ := hC
    have w : ∀ x, x ≠ 70 → x < 115 ∨ 246 < x → W x = V x := fun x hx hr => by rw [hW, up2_na hx, up2_na hx]; exact hU.2 x (by omega)
    have q1 : V1 405 = V 405 := by rw [c2, w 405 (by decide) (by omega)]
    have lo : ∀ x, x < 70 → V1 x = V x := fun x hx => by rw [c1 x (core_lt (by omega)) (by omega), w x (by omega) (by omega)]
    refine ⟨by rw [c1 406 rfl (by omega), w 406 (by decide) (by omega)], lo 1 (by decide), by rw [q1]; exact h1, h2, by rw [c5.2.1]; exact h.k1, h.ws.mov lo, ?_⟩
    unfold Bv
    rw [q1]
    exact h.bv
end LOOPB
