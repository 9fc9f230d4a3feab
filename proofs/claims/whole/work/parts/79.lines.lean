/-! ===== LINES OF THE LAW ===== -/
abbrev Ln : Type := Int × Int × List Int
def qOk {α : Type} (r : Nat × Option α) (S : Nat → α → Prop) (F : Nat → Prop) : Prop := match r.2 with
  | some l => S r.1 l
  | none => F r.1
theorem qOk_mono {α : Type} {r : Nat × Option α} {S S' : Nat → α → Prop} {F F' : Nat → Prop} (hS : ∀ j l, r = (j, some l) → S j l → S' j l) (hF : ∀ e, r = (e, none) → F e → F' e) (h : qOk r S F) : qOk r S' F' := by
  obtain ⟨j, o⟩ := r
  cases o with
  | none => exact hF j rfl h
  | some l => exact hS j l rfl h
noncomputable def qif {α : Type} (c : Prop) (a b : α) : α := @ite _ c (Classical.propDecidable _) a b
theorem qif_y {α : Type} {c : Prop} {a b : α} (h : c) : qif c a b = a := by unfold qif; rw [if_pos h]
theorem qif_n {α : Type} {c : Prop} {a b : α} (h : ¬ c) : qif c a b = b := by unfold qif; rw [if_neg h]
/-- a condition, or none -/
noncomputable def pIf (T : TK) (i : Nat) : pRes := pif (kW T i (wdS 42)) (pG T 3000 3 0 (i + 1)) (i, some [])
noncomputable def pTl (T : TK) (k w : Int) (i : Nat) : Nat × Option Ln := match (pIf T i).2 with
  | some l => ((pIf T i).1, some (k, w, l))
  | none => ((pIf T i).1, none)
noncomputable def pWt (T : TK) (k : Int) (i : Nat) : Nat × Option Ln := qif (∃ v, kN T i 0 50 v) (pTl T k (Classical.epsilon (kN T i 0 50)) (i + 1)) (i, none)
noncomputable def pLine (T : TK) (i : Nat) : Nat × Option Ln := qif (kW T i (wdS 39)) (pWt T 0 (i + 1)) (qif (kW T i (wdS 40)) (pWt T 1 (i + 1)) (qif (kW T i (wdS 41)) (pTl T 2 0 (i + 1)) (i, none)))
noncomputable def pLs (T : TK) (N : Nat) : Nat → Nat → Nat × Option (List Ln)
  | 0, i => (i, none)
  | n + 1, i => match pLine T i with
    | (e, none) => (e, none)
    | (j, some x) => qif (j = N) (j, some [x]) (qif (kS T j 59) (match pLs T N n (j + 1) with | (e, none) => (e, none) | (j', some r) => (j', some (x :: r))) (j, none))
section LINES
variable {T : TK} {m N : Nat}
theorem pIf_bd (hT : okT T m N) {i : Nat} (hi : i ≤ N) : rOk (pIf T i) (fun j l => i ≤ j ∧ j ≤ N ∧ l.length ≤ 2 * (j - i)) (fun e => e ≤ N) := by
  unfold pIf
  by_cases h : kW T i (wdS 42)
  · rw [pif_y h]
    have := kW_lt hT hi h
    refine rOk_mono (fun j l _ hh => ?_) (fun e _ hh => hh) (pG_bd hT 3000 3 0 (i + 1) (by omega))
    have h4 := hh.2.2.2 (by omega)
    exact ⟨by omega, hh.2.1, by omega⟩
  · rw [pif_n h]
    exact ⟨Nat.le_refl _, hi, by show 0 ≤ _; omega⟩
theorem pTl_bd (hT : okT T m N) {i : Nat} {k w : Int} (hi : i ≤ N) : qOk (pTl T k w i) (fun j x => i ≤ j ∧ j ≤ N ∧ x.2.2.length ≤ 2 * (j - i) ∧ x.1 = k ∧ x.2.1 = w) (fun e => e ≤ N) := by
  have hb := pIf_bd hT hi
  unfold pTl
  obtain ⟨⟨j, o⟩, hr⟩ : ∃ r, r = pIf T i := ⟨_, rfl⟩
  rw [← hr] at hb ⊢
  cases o with
  | none => exact hb
  | some l => exact ⟨hb.1, hb.2.1, hb.2.2, rfl, rfl⟩
theorem pWt_bd (hT : okT T m N) {i : Nat} {k : Int} (hi : i ≤ N) : qOk (pWt T k i) (fun j x => i < j ∧ j ≤ N ∧ x.2.2.length ≤ 2 * (j - i) ∧ x.1 = k ∧ 0 ≤ x.2.1 ∧ x.2.1 ≤ 50) (fun e => e ≤ N) := by
  unfold pWt
  by_cases h : ∃ v, kN T i 0 50 v
  · rw [qif_y h]
    have hv := Classical.epsilon_spec h
    have := kN_lt hT hi hv
    refine qOk_mono (fun j x _ hh => ?_) (fun e _ hh => hh) (pTl_bd hT (show i + 1 ≤ N by omega))
    refine ⟨by omega, hh.2.1, by omega, hh.2.2.2.1, ?_⟩
    rw [hh.2.2.2.2]
    exact ⟨hv.2.2.2.1, hv.2.2.2.2⟩
  · rw [qif_n h]
    exact hi
theorem pLine_bd (hT : okT T m N) {i : Nat} (hi : i ≤ N) : qOk (pLine T i) (fun j x => i < j ∧ j ≤ N ∧ x.2.2.length ≤ 2 * (j - i) ∧ (x.1 = 0 ∨ x.1 = 1 ∨ x.1 = 2) ∧ 0 ≤ x.2.1 ∧ x.2.1 ≤ 50 ∧ (x.1 = 2 → x.2.1 = 0)) (fun e => e ≤ N) := by
  unfold pLine
  by_cases h1 : kW T i (wdS 39)
  · rw [qif_y h1]
    have := kW_lt hT hi h1
    exact qOk_mono (fun j x _ hh => ⟨by omega, hh.2.1, by omega, Or.inl hh.2.2.2.1, hh.2.2.2.2.1, hh.2.2.2.2.2, fun e => by rw [hh.2.2.2.1] at e; omega⟩) (fun e _ hh => hh) (pWt_bd hT (show i + 1 ≤ N by omega))
  · rw [qif_n h1]
    by_cases h2 : kW T i (wdS 40)
    · rw [qif_y h2]
      have := kW_lt hT hi h2
      exact qOk_mono (fun j x _ hh => ⟨by omega, hh.2.1, by omega, Or.inr (Or.inl hh.2.2.2.1), hh.2.2.2.2.1, hh.2.2.2.2.2, fun e => by rw [hh.2.2.2.1] at e; omega⟩) (fun e _ hh => hh) (pWt_bd hT (show i + 1 ≤ N by omega))
    · rw [qif_n h2]
      by_cases h3 : kW T i (wdS 41)
      · rw [qif_y h3]
        have := kW_lt hT hi h3
        exact qOk_mono (fun j x _ hh => ⟨by omega, hh.2.1, by omega, Or.inr (Or.inr hh.2.2.2.1), by rw [hh.2.2.2.2]; omega, by rw [hh.2.2.2.2]; omega, fun _ => hh.2.2.2.2⟩) (fun e _ hh => hh) (pTl_bd hT (show i + 1 ≤ N by omega))
      · rw [qif_n h3]
        exact hi
/-! ===== the class's ===== -/
variable {D : yD}
/-- a line has been put down -/
def LnS (V V' : xF) (x : Ln) : Prop := V' 248 5 = V 248 5 ∧ V' 249 (V 248 5).toNat = x.1 ∧ (x.1 ≠ 2 → V' 250 (V 248 5).toNat = x.2.1) ∧ (∀ k, k ≠ (V 248 5).toNat → V' 249 k = V 249 k ∧ V' 250 k = V 250 k) ∧ V' 248 6 = V 248 6 + (x.2.2.length : Int) ∧ (∀ k : Nat, (k : Int) < V 248 6 → V' 252 k = V 252 k) ∧ (∀ k : Nat, k < x.2.2.length → V' 252 ((V 248 6).toNat + k) = x.2.2.getD k 0) ∧ Fr [76, 248, 249, 250, 252] V V' ∧ (∀ j, j ≠ 6 → V' 248 j = V 248 j) ∧ (∀ j, j ≠ 5 → j ≠ 6 → V' 76 j = V 76 j)
def LnF (V V' : xF) : Prop := 0 ≤ V' 248 6 ∧ Fr [76, 248, 249, 250, 251, 252] V V' ∧ (∀ j, j ≠ 5 → j ≠ 6 → V' 248 j = V 248 j) ∧ (∀ j, j ≠ 5 → j ≠ 6 → V' 76 j = V 76 j)
theorem c_cond {d i : Nat} {V1 : xF} {Q : xRes → xF → yD → Prop} (hN4 : N ≤ 400) (hd : 20 ≤ d) (hC : CL V1 T m N i) (h0 : 0 ≤ V1 248 6) (hlen : V1 248 6 ≤ 2 * (i : Int)) (h : rOk (pIf T i) (qS V1 D T m N Q) (qF V1 D T m N Q)) : RY d 352 0 [vr 76, vr 25] [] V1 D (yback d 311 117 [vr 248] [] Q) := by
  unfold pIf at h
  refine hC.pW (by omega) (by omega) (fun hlt ht => u_311_117 ⟨fun h5 => absurd h5 (by decide), fun _ => ?_⟩) (fun ht => u_311_117 ⟨fun _ => ?_, fun h5 => absurd rfl h5⟩)
  · rw [wd_eq.2.2.2.2.2.2.2.2.2] at ht
    rw [pif_y ht] at h
    have hp : pre V1 T m N i := ⟨hC, h0, hlen⟩
    refine (c_G hN4 3000).2 0 (i + 1) d _ _ (by omega) (by unfold needG; omega) (by omega) (hp.up hlt) ?_
    refine rOk_mono (fun j l _ hh => ?_) (fun e _ hh => ?_) h
    · exact fun V2 hC2 hS2 => u_311_125 ⟨fun h5 => absurd h5 (by decide), fun _ => qS.at5 h0 hh V2 hC2 hS2⟩
    · exact fun V2 hC2 hF2 => u_311_125 ⟨fun _ => qF.at5 h0 hh V2 hC2 hF2, fun h5 => absurd rfl h5⟩
  · rw [wd_eq.2.2.2.2.2.2.2.2.2] at ht
    rw [pif_n ht] at h
    exact h V1 hC CS.rf
theorem c_line {d i : Nat} {V1 : xF} {Q : xRes → xF → yD → Prop} (hN4 : N ≤ 400) (hd : 20 ≤ d) (hC : CL V1 T m N i) (h0 : 0 ≤ V1 248 6) (hlen : V1 248 6 ≤ 2 * (i : Int)) (h5 : 0 ≤ V1 248 5 ∧ V1 248 5 < 12)
    (h : qOk (pLine T i) (fun j x => ∀ V2, CL V2 T m N j → LnS V1 V2 x → Q (.inl (some (vi 1))) V2 D) (fun e => ∀ V2, CL V2 T m N e → LnF V1 V2 → Q (.inl (some (vi 0))) V2 D)) : RY d 311 0 [vr 248] [] V1 D Q := by
  have hw := wd_eq
  -- from the kind on: the room is V2, k and w are put down
  have tail : ∀ (k w : Int) (j : Nat) (V2 : xF), j ≤ N → i ≤ j → CL V2 T m N j → Fr [76, 249, 250] V1 V2 → V2 249 (V1 248 5).toNat = k → (k ≠ 2 → V2 250 (V1 248 5).toNat = w) → (∀ q, q ≠ (V1 248 5).toNat → V2 249 q = V1 249 q ∧ V2 250 q = V1 250 q) → (∀ q, q ≠ 5 → q ≠ 6 → V2 76 q = V1 76 q) → qOk (pTl T k w j) (fun j x => ∀ V2, CL V2 T m N j → LnS V1 V2 x → Q (.inl (some (vi 1))) V2 D) (fun e => ∀ V2, CL V2 T m N e → LnF V1 V2 → Q (.inl (some (vi 0))) V2 D) → RY d 352 0 [vr 76, vr 25] [] V2 D (yback d 311 117 [vr 248] [] Q) := by
    intro k w j V2 hj hij hC2 F2 hk hw hq h76 hh
    have e8 : V2 248 = V1 248 := F2.at_ 248 (by decide)
    refine c_cond hN4 hd hC2 (by rw [e8]; exact h0) (by rw [e8]; omega) ?_
    unfold pTl at hh
    obtain ⟨⟨j', o⟩, hr⟩ : ∃ r, r = pIf T j := ⟨_, rfl⟩
    rw [← hr] at hh ⊢
    cases o with
    | none =>
      intro V3 hC3 hF3
      exact hh V3 hC3 ⟨hF3.1, (F2.sub (by decide)).tr (hF3.2.1.sub (by decide)), fun q h1 h2 => (hF3.2.2.1 q h2).trans (by rw [e8]), fun q h1 h2 => (hF3.2.2.2 q h1 h2).trans (h76 q h1 h2)⟩
    | some l =>
      intro V3 hC3 hS3
      obtain ⟨s1, s2, s3, s4, s5, s6⟩ := hS3
      rw [e8] at s1 s2 s3
      have f9 : V3 249 = V2 249 := s4.at_ 249 (by decide)
      have f0 : V3 250 = V2 250 := s4.at_ 250 (by decide)
      refine hh V3 hC3 ⟨by rw [s5 5 (by decide), e8], by rw [f9]; exact hk, fun hn => by rw [f0]; exact hw hn, fun q hn => by rw [f9, f0]; exact hq q hn, s1, fun q hn => by rw [s2 q hn, F2.at_ 252 (by decide)], s3, (F2.sub (by decide)).tr (s4.sub (by decide)), fun q hn => by rw [s5 q hn, e8], fun q h1 h2 => (s6 q h1 h2).trans (h76 q h1 h2)⟩
  have weight : ∀ (k : Int) (V2 : xF), i < N → k ≠ 2 → CL V2 T m N (i + 1) → V2 = up2 (up2 V1 76 5 (((i + 1 : Nat)) : Int)) 249 (V1 248 5).toNat k → qOk (pWt T k (i + 1)) (fun j x => ∀ V2, CL V2 T m N j → LnS V1 V2 x → Q (.inl (some (vi 1))) V2 D) (fun e => ∀ V2, CL V2 T m N e → LnF V1 V2 → Q (.inl (some (vi 0))) V2 D) → RY d 362 0 [vr 76, vi 0, vi 50, vr 0] [] V2 D (yback d 311 87 [vr 248] [] Q) := by
    intro k V2 hlt hk2 hC2 hV2 hh
    unfold pWt at hh
    refine hC2.pN (by omega) (fun v hlt2 hv => u_311_87 ⟨fun _ => ?_, fun h6 => absurd h6 (by decide)⟩) (fun hno => u_311_87 ⟨fun h6 => absurd rfl h6, fun _ => ?_⟩)
    · have hx : ∃ v, kN T (i + 1) 0 50 v := ⟨v, hv⟩
      rw [qif_y hx, show Classical.epsilon (kN T (i + 1) 0 50) = v from tN_uni (Classical.epsilon_spec hx) hv] at hh
      obtain ⟨V3, hV3⟩ : ∃ V3, V3 = up2 (up2 V2 76 6 v) 76 5 (((i + 1 + 1 : Nat)) : Int) := ⟨_, rfl⟩
      rw [← hV3]
      have hC3 : CL V3 T m N (i + 2) := by
        rw [hV3]
        have c1 : CL (up2 V2 76 6 v) T m N (i + 1) := hC2.keep (Fr.up (by decide)) (up2_ni (by decide))
        exact c1.up hlt2
      have e8 : V3 248 = V1 248 := by rw [hV3, up2_na (by decide), up2_na (by decide), hV2, up2_na (by decide), up2_na (by decide)]
      have e6 : V3 76 6 = v := by rw [hV3, up2_ni (by decide), up2_at]
      rw [e8, e6]
      refine ⟨h5, ?_⟩
      rintro V4 rfl
      have hn250 : ∀ a, a ≠ 250 → up2 V3 250 (V1 248 5).toNat v a = V3 a := fun a ha => up2_na ha
      refine tail k v (i + 2) _ (by omega) (by omega) (hC3.keep (Fr.up (by decide)) (by rw [up2_na (by decide)])) ?_ ?_ ?_ ?_ ?_ hh
      · rw [hV3, hV2]
        exact ((((Fr.up (by decide)).tr (Fr.up (by decide))).tr (Fr.up (by decide))).tr (Fr.up (by decide))).tr (Fr.up (by decide))
      · rw [hn250 249 (by decide), hV3, up2_na (by decide), up2_na (by decide), hV2, up2_at]
      · intro _; exact up2_at _ _ _ _
      · intro q hq
        rw [hn250 249 (by decide), up2_ni hq, hV3, up2_na (by decide), up2_na (by decide), up2_na (by decide), up2_na (by decide), hV2, up2_ni hq, up2_na (by decide), up2_na (by decide), up2_na (by decide)]
        exact ⟨rfl, rfl⟩
      · intro q h1 h2
        rw [hn250 76 (by decide), hV3, up2_ni h1, up2_ni h2, hV2, up2_na (by decide), up2_ni h1]
    · rw [qif_n (fun ⟨v, hv⟩ => hno v hv)] at hh
      refine hh V2 hC2 ?_
      rw [hV2]
      refine ⟨?_, ((Fr.up (by decide)).tr (Fr.up (by decide))), fun q _ _ => ?_, fun q h1 h2 => ?_⟩
      · rw [up2_na (by decide), up2_na (by decide)]; exact h0
      · rw [up2_na (by decide), up2_na (by decide)]
      · rw [up2_na (by decide), up2_ni h1]
  have setk : ∀ (k : Int), i < N → CL (up2 (up2 V1 76 5 (((i + 1 : Nat)) : Int)) 249 (V1 248 5).toNat k) T m N (i + 1) := fun k hlt => (hC.up hlt).keep (Fr.up (by decide)) (by rw [up2_na (by decide)])
  have e85 : ∀ z : Int, (up2 V1 76 5 z) 248 5 = V1 248 5 := fun z => by rw [up2_na (by decide)]
  unfold pLine at h
  have excl : ∀ {s s' : List Int}, kW T i s → kW T i s' → s = s' := fun a b => tW_uni a b
  have ne1 : wdS 41 ≠ wdS 39 ∧ wdS 41 ≠ wdS 40 := by decide +kernel
  refine u_311_0 (hC.pW (by omega) (by omega) (fun hlt ht => u_311_9 ⟨fun h6 => absurd h6 (by decide), fun _ => ?_⟩) (fun ht => u_311_9 ⟨fun _ => ?_, fun h6 => absurd rfl h6⟩))
  · -- refuse
    rw [hw.2.2.2.2.2.2.1] at ht
    rw [qif_n (fun hc => ne1.1 (excl ht hc)), qif_n (fun hc => ne1.2 (excl ht hc)), qif_y ht] at h
    rw [e85]
    refine ⟨h5, ?_⟩
    rintro V2 rfl
    refine tail 2 0 (i + 1) _ hlt (by omega) (setk 2 hlt) ((Fr.up (by decide)).tr (Fr.up (by decide))) (up2_at _ _ _ _) (fun hn => absurd rfl hn) (fun q hq => ?_) (fun q h1 h2 => ?_) h
    · rw [up2_ni hq, up2_na (by decide), up2_na (by decide), up2_na (by decide)]; exact ⟨rfl, rfl⟩
    · rw [up2_na (by decide), up2_ni h1]
  rw [hw.2.2.2.2.2.2.1] at ht
  refine hC.pW (by omega) (by omega) (fun hlt ht2 => u_311_34 ⟨fun h6 => absurd h6 (by decide), fun _ => ?_⟩) (fun ht2 => u_311_34 ⟨fun _ => ?_, fun h6 => absurd rfl h6⟩)
  · rw [hw.2.2.2.2.2.2.2.1] at ht2
    rw [qif_y ht2] at h
    rw [e85]
    refine ⟨h5, ?_⟩
    rintro V2 hV2
    exact weight 0 V2 hlt (by decide) (by rw [hV2]; exact setk 0 hlt) hV2 h
  rw [hw.2.2.2.2.2.2.2.1] at ht2
  rw [qif_n ht2] at h
  refine hC.pW (by omega) (by omega) (fun hlt ht3 => u_311_59 ⟨fun h6 => absurd h6 (by decide), fun _ => ?_⟩) (fun ht3 => u_311_59 ⟨fun _ => ?_, fun h6 => absurd rfl h6⟩)
  · rw [hw.2.2.2.2.2.2.2.2.1] at ht3
    rw [qif_y ht3] at h
    rw [e85]
    refine ⟨h5, ?_⟩
    rintro V2 hV2
    exact weight 1 V2 hlt (by decide) (by rw [hV2]; exact setk 1 hlt) hV2 h
  rw [hw.2.2.2.2.2.2.2.2.1] at ht3
  rw [qif_n ht3, qif_n ht] at h
  exact h V1 hC ⟨h0, Fr.rf, fun _ _ _ => rfl, fun _ _ _ => rfl⟩
end LINES
