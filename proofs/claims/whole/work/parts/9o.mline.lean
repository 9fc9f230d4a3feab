/-! ===== A ROOM'S LINE, A TENANT'S, A DOOR'S ===== -/
section MLINE
variable {V : xF} {D : yD} {T : TK} {m N : Nat} {p : Rw} {a : Int}
abbrev mhS (V : xF) (D : yD) (T : TK) (Q : xRes → xF → yD → Prop) : Nat → Rw → Prop := fun j q => ∀ a', Ah T j a' → Q (.inl none) (mst (r6 V q) a' (-1) 0) D
abbrev mhF (V : xF) (D : yD) (T : TK) (p : Rw) (Q : xRes → xF → yD → Prop) : Nat → Prop := fun e => ∀ a', 0 ≤ a' → Q (.inl none) (mst (r6 V p) a' (T.2.2.1 e) 0) D
theorem m_roomLine (hR : HR V T m N) (hW : WF p) {d i0 i : Nat} {Q : xRes → xF → yD → Prop} (hi0 : i0 ≤ N) (hi : i ≤ N) (ha : Ah T i a) (ha0 : 0 ≤ a) (h : qOk (qif (p 3 < 5) (hRoom T p i) (i0, none)) (mhS V D T Q) (mhF V D T p Q)) : RY d 306 0 [vr 405, vi (T.2.2.1 i0), vr 0, vr 0, vr 0, vr 0, vr 0, vr 0] [] (mst (r6 V p) a (-1) 0) D Q := by
  have hT := hR.1
  have h3' := hW.1
  have bad50 : ∀ (V1 : xF) (i1 i2 i3 : Int), V1 405 12 ≠ -1 → Q (.inl none) V1 D → RY d 306 50 [vr 405, vi i1, vi i2, vi i3, vr 0, vr 0, vr 0, vr 0] [vi 0] V1 D Q := fun V1 i1 i2 i3 hb hq => u_306_50 ⟨fun _ => ⟨fun _ => ⟨fun h5 => absurd h5 hb, fun _ => hq⟩, fun h5 => absurd h5 hb⟩, fun h5 => absurd rfl h5⟩
  have bad29 : ∀ (V1 : xF) (i1 i2 : Int), V1 405 12 ≠ -1 → Q (.inl none) V1 D → RY d 306 29 [vr 405, vi i1, vi i2, vr 0, vr 0, vr 0, vr 0, vr 0] [vi 0] V1 D Q := fun V1 i1 i2 hb hq => u_306_29 ⟨fun _ => bad_exp hb (bad50 V1 _ _ _ hb hq), fun h5 => absurd rfl h5⟩
  have bad39 : ∀ (V1 : xF) (i1 i2 v : Int), V1 405 12 ≠ -1 → Q (.inl none) V1 D → RY d 306 39 [vr 405, vi i1, vi i2, vr 0, vr 0, vr 0, vr 0, vr 0] [vi v] V1 D Q := fun V1 i1 i2 v hb hq => u_306_39 (bad_exp hb (bad50 V1 _ _ _ hb hq))
  have bad22 : ∀ (V1 : xF) (i1 v : Int), V1 405 12 ≠ -1 → Q (.inl none) V1 D → RY d 306 22 [vr 405, vi i1, vr 0, vr 0, vr 0, vr 0, vr 0, vr 0] [vi v] V1 D Q := fun V1 i1 v hb hq => u_306_22 (bad_exp hb (bad29 V1 _ _ hb hq))
  have hb : ∀ (e : Nat) (a' : Int), e ≤ N → (mst (r6 V p) a' (T.2.2.1 e) 0) 405 12 ≠ -1 := fun e a' he => by rw [mst_12]; exact (hR.nn he).1
  have e3 : (mst (r6 V p) a (-1) 0) 406 3 = p 3 := by rw [mst_n (by decide), r6_6]
  refine u_306_0 ?_
  rw [e3]
  refine ⟨fun hne => ?_, fun he => ⟨fun h5 => absurd mst_12 h5, fun _ V1 hV1 => ?_⟩⟩
  · have h3 : p 3 < 5 := by omega
    rw [qif_y h3] at h
    unfold hRoom at h
    refine hR.num hi ha (fun h1 l1 A1 => ?_) (fun h1 v a' ha1 => ?_)
    · rw [qif_y h1] at h
      show RY d 306 22 _ _ _ D Q
      refine u_306_22 (hR.exp (by omega) (by omega) l1 A1 (fun l2 h2 A2 => ?_) (fun h2 => ?_))
      · rw [qif_y h2] at h
        show RY d 306 29 _ _ _ D Q
        refine u_306_29 ⟨fun h5 => absurd h5 (by decide), fun _ => hR.num (show i + 1 + 1 ≤ N by omega) A2 (fun h4 l4 A4 => ?_) (fun h4 v a' ha1 => ?_)⟩
        · rw [show i + 1 + 1 = i + 2 by omega] at h4 l4 A4 ⊢
          rw [qif_y h4] at h
          show RY d 306 39 _ _ _ D Q
          refine u_306_39 (hR.exp (by omega) (by omega) (show i + 2 + 1 ≤ N by omega) A4 (fun l5 h5 A5 => ?_) (fun h5 => ?_))
          · rw [show i + 2 + 1 = i + 3 by omega] at h5 l5 A5 ⊢
            rw [qif_y h5] at h
            show RY d 306 50 _ _ _ D Q
            refine u_306_50 ⟨fun h9 => absurd h9 (by decide), fun _ => hR.sorts (show i + 3 + 1 ≤ N by omega) A5 (fun h6 l6 A6 => ?_) (fun h6 v => ?_)⟩
            · rw [show i + 3 + 1 = i + 4 by omega] at h6 l6 A6 ⊢
              rw [qif_y h6] at h
              unfold hRent at h
              have hs : ∀ k, k < 4 → 0 ≤ srv T (i + 4) k ∧ srv T (i + 4) k ≤ 4 := fun k hk => by
                have a1 := h6.2.2 k hk
                have a2 := srt_b (T.1 ((T.2.2.1 (i + 4)).toNat + k))
                unfold srv at *
                omega
              show RY d 306 57 _ _ _ D Q
              refine u_306_57 ⟨fun h9 => absurd mst_12 h9, fun _ => hR.lr.has (by omega) (by omega) (show i + 4 + 1 ≤ N by omega) A6 (fun l7 h7 => ?_) (fun h7 => ?_)⟩
              · rw [show i + 4 + 1 = i + 5 by omega] at h7 l7 ⊢
                rw [qif_y h7] at h
                show RY d 306 77 _ _ _ D Q
                refine u_306_77 ⟨fun h9 => absurd h9 (by decide), fun _ => hR.num (show i + 5 + 1 ≤ N by omega) (Ah.nxt hT l7) (fun h8 l8 A8 => ?_) (fun h8 v a' ha1 => ?_)⟩
                · rw [qif_y h8] at h
                  show RY d 306 87 _ _ _ D Q
                  exact u_306_87 (m_rmput hW h3 hs rfl (h _ A8))
                · rw [qif_n h8] at h
                  show RY d 306 87 _ _ _ D Q
                  exact u_306_87 ⟨fun h9 => absurd h9 (hb _ _ (by omega)), fun _ => h a' ha1⟩
              · rw [show i + 4 + 1 = i + 5 by omega] at h7 ⊢
                rw [qif_n h7] at h
                show RY d 306 77 _ _ _ D Q
                exact u_306_77 ⟨fun _ => m_rmput hW h3 hs rfl (h _ (Ah.beg hT (by omega))), fun h9 => absurd rfl h9⟩
            · rw [show i + 3 + 1 = i + 4 by omega] at h6 ⊢
              rw [qif_n h6] at h
              show RY d 306 57 _ _ _ D Q
              exact u_306_57 ⟨fun _ => ⟨fun h9 => absurd h9 (hb _ _ (by omega)), fun _ => h _ (hR.nn (by omega)).2⟩, fun h9 => absurd h9 (hb _ _ (by omega))⟩
          · rw [show i + 2 + 1 = i + 3 by omega] at h5 ⊢
            rw [qif_n h5] at h
            exact bad50 _ _ _ _ (hb _ _ (by omega)) (h _ (hR.nn (by omega)).2)
        · rw [show i + 1 + 1 = i + 2 by omega] at h4 ⊢
          rw [qif_n h4] at h
          exact bad39 _ _ _ _ (hb _ _ (by omega)) (h _ ha1)
      · rw [qif_n h2] at h
        exact bad29 _ _ _ (hb _ _ (by omega)) (h _ (hR.nn (by omega)).2)
    · rw [qif_n h1] at h
      exact bad22 _ _ _ (hb _ _ hi) (h _ ha1)
  · rw [qif_n (by omega)] at h
    rw [mst_w12] at hV1
    rw [hV1]
    exact bad_num (hb _ _ hi0) (bad22 _ _ _ (hb _ _ hi0) (h _ ha0))
theorem m_tnput {d : Nat} {u w l : Int} {Q : xRes → xF → yD → Prop} (hW : WF p) (h4 : p 4 < 5) (h : Q (.inl none) (mst (r6 V (tnR p u w l)) a (-1) 0) D) :
    (((mst (r6 V p) a (-1) 0) 405 12) = ((-1)) → (((0 : Int) ≤ wr ((wr ((51 : Int) + (wr ((3 : Int) * ((mst (r6 V p) a (-1) 0) 406 4))))) + 0) ∧ wr ((wr ((51 : Int) + (wr ((3 : Int) * ((mst (r6 V p) a (-1) 0) 406 4))))) + 0) < (731 : Int)) ∧ (∀ V1 : xF, V1 = up2 (mst (r6 V p) a (-1) 0) 406 ((wr ((wr ((51 : Int) + (wr ((3 : Int) * ((mst (r6 V p) a (-1) 0) 406 4))))) + 0)).toNat) u → (((0 : Int) ≤ wr ((wr ((51 : Int) + (wr ((3 : Int) * ((mst (r6 V p) a (-1) 0) 406 4))))) + 1) ∧ wr ((wr ((51 : Int) + (wr ((3 : Int) * ((mst (r6 V p) a (-1) 0) 406 4))))) + 1) < (731 : Int)) ∧ (∀ V2 : xF, V2 = up2 V1 406 ((wr ((wr ((51 : Int) + (wr ((3 : Int) * ((mst (r6 V p) a (-1) 0) 406 4))))) + 1)).toNat) w → (((0 : Int) ≤ wr ((wr ((51 : Int) + (wr ((3 : Int) * ((mst (r6 V p) a (-1) 0) 406 4))))) + 2) ∧ wr ((wr ((51 : Int) + (wr ((3 : Int) * ((mst (r6 V p) a (-1) 0) 406 4))))) + 2) < (731 : Int)) ∧ (∀ V3 : xF, V3 = up2 V2 406 ((wr ((wr ((51 : Int) + (wr ((3 : Int) * ((mst (r6 V p) a (-1) 0) 406 4))))) + 2)).toNat) l → ∀ V4 : xF, V4 = up2 V3 406 4 (wr ((V3 406 4) + 1)) → Q (.inl none) V4 D))))))) ∧ (((mst (r6 V p) a (-1) 0) 405 12) ≠ ((-1)) → Q (.inl none) (mst (r6 V p) a (-1) 0) D) := by
  have r4 := hW.2.1
  obtain ⟨n, hn⟩ : ∃ n : Nat, p 4 = (n : Int) := ⟨(p 4).toNat, by omega⟩
  have e4 : (mst (r6 V p) a (-1) 0) 406 4 = (n : Int) := by rw [mst_n (by decide), r6_6]; exact hn
  have hnn : (p 4).toNat = n := by omega
  have hn5 : n < 5 := by omega
  have e6 : wr ((51 : Int) + (wr ((3 : Int) * (n : Int)))) = ((51 + 3 * n : Nat) : Int) := by rw [wr_id (x := (3 : Int) * (n : Int)) (by omega) (by omega), wr_id (by omega) (by omega)]; omega
  have e0 : wr (((51 + 3 * n : Nat) : Int) + 0) = ((51 + 3 * n : Nat) : Int) := by clear e6; rw [wr_id (by omega) (by omega)]; omega
  have e1 : wr (((51 + 3 * n : Nat) : Int) + 1) = ((52 + 3 * n : Nat) : Int) := by clear e6 e0; rw [wr_id (by omega) (by omega)]; omega
  have e2 : wr (((51 + 3 * n : Nat) : Int) + 2) = ((53 + 3 * n : Nat) : Int) := by clear e6 e0 e1; rw [wr_id (by omega) (by omega)]; omega
  rw [e4, e6, e0, e1, e2]
  clear e6 e0 e1 e2
  refine ⟨fun _ => ⟨by omega, ?_⟩, fun h5 => absurd mst_12 h5⟩
  rintro V1 rfl
  refine ⟨by omega, ?_⟩
  rintro V2 rfl
  refine ⟨by omega, ?_⟩
  rintro V3 rfl V4 hV4
  rw [nn_toNat, nn_toNat, nn_toNat, r6_up, r6_up, r6_up] at hV4
  have e5 : (mst (r6 V (rup (rup (rup p (51 + 3 * n) u) (52 + 3 * n) w) (53 + 3 * n) l)) a (-1) 0) 406 4 = (n : Int) := by rw [mst_n (by decide), r6_6, rup_n (by omega), rup_n (by omega), rup_n (by omega)]; exact hn
  have e8 : wr ((n : Int) + 1) = p 4 + 1 := by rw [wr_id (by omega) (by omega), hn]
  rw [e5, e8, r6_up] at hV4
  rw [hV4]
  unfold tnR at h
  rw [hnn] at h
  exact h
theorem m_tenantLine (hR : HR V T m N) (hW : WF p) {d i0 i : Nat} {Q : xRes → xF → yD → Prop} (hi0 : i0 ≤ N) (hi : i ≤ N) (ha : Ah T i a) (ha0 : 0 ≤ a) (h : qOk (qif (p 4 < 5) (hTen T p i) (i0, none)) (mhS V D T Q) (mhF V D T p Q)) : RY d 307 0 [vr 405, vi (T.2.2.1 i0), vr 0, vr 0, vr 0, vr 0] [] (mst (r6 V p) a (-1) 0) D Q := by
  have hT := hR.1
  have h3' := hW.1
  have h4' := hW.2.1
  have bad42 : ∀ (V1 : xF) (i1 i2 : Int), V1 405 12 ≠ -1 → Q (.inl none) V1 D → RY d 307 42 [vr 405, vi i1, vi i2, vr 0, vr 0, vr 0] [vi 0] V1 D Q := fun V1 i1 i2 hb hq => u_307_42 ⟨fun _ => ⟨fun _ => ⟨fun h5 => absurd h5 hb, fun _ => hq⟩, fun h5 => absurd h5 hb⟩, fun h5 => absurd rfl h5⟩
  have bad31 : ∀ (V1 : xF) (i1 v : Int), V1 405 12 ≠ -1 → Q (.inl none) V1 D → RY d 307 31 [vr 405, vi i1, vr 0, vr 0, vr 0, vr 0] [vi v] V1 D Q := fun V1 i1 v hb hq => u_307_31 (bad_exp hb (bad42 V1 _ _ hb hq))
  have bad21 : ∀ (V1 : xF) (i1 : Int), V1 405 12 ≠ -1 → Q (.inl none) V1 D → RY d 307 21 [vr 405, vi i1, vr 0, vr 0, vr 0, vr 0] [vi 0] V1 D Q := fun V1 i1 hb hq => u_307_21 ⟨fun _ => bad_exp hb (bad42 V1 _ _ hb hq), fun h5 => absurd rfl h5⟩
  have hb : ∀ (e : Nat) (a' : Int), e ≤ N → (mst (r6 V p) a' (T.2.2.1 e) 0) 405 12 ≠ -1 := fun e a' he => by rw [mst_12]; exact (hR.nn he).1
  have e4 : (mst (r6 V p) a (-1) 0) 406 4 = p 4 := by rw [mst_n (by decide), r6_6]
  refine u_307_0 ?_
  rw [e4]
  refine ⟨fun hne => ?_, fun he => ⟨fun h5 => absurd mst_12 h5, fun _ V1 hV1 => ?_⟩⟩
  · have h4 : p 4 < 5 := by omega
    rw [qif_y h4] at h
    unfold hTen at h
    refine hR.exp (by omega) (by omega) hi ha (fun l1 h1 A1 => ?_) (fun h1 => ?_)
    · rw [qif_y h1] at h
      show RY d 307 21 _ _ _ D Q
      refine u_307_21 ⟨fun h9 => absurd h9 (by decide), fun _ => hR.num l1 A1 (fun h2 l2 A2 => ?_) (fun h2 v a' ha1 => ?_)⟩
      · rw [qif_y h2] at h
        show RY d 307 31 _ _ _ D Q
        refine u_307_31 (hR.exp (by omega) (by omega) (show i + 1 + 1 ≤ N by omega) A2 (fun l3 h3 A3 => ?_) (fun h3 => ?_))
        · rw [show i + 1 + 1 = i + 2 by omega] at h3 l3 A3 ⊢
          rw [qif_y h3] at h
          show RY d 307 42 _ _ _ D Q
          refine u_307_42 ⟨fun h9 => absurd h9 (by decide), fun _ => hR.num (show i + 2 + 1 ≤ N by omega) A3 (fun h5 l5 A5 => ?_) (fun h5 v a' ha1 => ?_)⟩
          · rw [show i + 2 + 1 = i + 3 by omega] at h5 l5 A5 ⊢
            rw [qif_y h5] at h
            unfold hIn at h
            show RY d 307 52 _ _ _ D Q
            refine u_307_52 ⟨fun h9 => absurd mst_12 h9, fun _ => hR.lr.has (by omega) (by omega) (show i + 3 + 1 ≤ N by omega) A5 (fun l7 h7 => ?_) (fun h7 => ?_)⟩
            · rw [show i + 3 + 1 = i + 4 by omega] at h7 l7 ⊢
              rw [qif_y h7] at h
              show RY d 307 74 _ _ _ D Q
              refine u_307_74 ⟨fun h9 => absurd h9 (by decide), fun _ => m_here hT (hR.lr (p := p)).2.1 (show i + 4 + 1 ≤ N by omega) (Ah.nxt hT l7) ?_⟩
              show RY d 307 81 _ _ _ D Q
              have e3 : (mst (r6 V p) (T.2.2.1 (i + 4 + 1)) (-1) 0) 406 3 = p 3 := by rw [mst_n (by decide), r6_6]
              have e9 : wr (p 3 - 1) = p 3 - 1 := wr_id (by omega) (by omega)
              refine u_307_81 ?_
              rw [e3, e9]
              refine hR.num (show i + 4 + 1 ≤ N by omega) (Ah.beg hT (by omega)) (fun h8 l8 A8 => ?_) (fun h8 v a' ha1 => ?_)
              · have b8 := isN_b h8
                show RY d 307 96 _ _ _ D Q
                refine u_307_96 ⟨fun h9 => absurd mst_12 h9, fun _ => ?_⟩
                have hold := m_holder (V := mst (r6 V p) (T.2.2.2 (i + 4 + 1)) (-1) 0) (D := D) (d := d) (r := nv T (i + 4 + 1)) (Q := yback d 307 112 [vr 405, vi (T.2.2.1 i0), vi (nv T (i + 1)), vi (nv T (i + 3)), vi (nv T (i + 4 + 1)), vi (T.2.2.1 (i + 4 + 1))] [] Q) b8.1 (by rw [mst_n (by decide), r6_6]; exact hW)
                rw [mst_n (by decide), r6_6] at hold
                refine hold ?_
                show RY d 307 112 _ _ _ D Q
                refine u_307_112 ⟨fun h9 => ?_, fun h9 => ⟨fun h10 => absurd mst_12 h10, fun _ V9 hV9 => ?_⟩⟩
                · rw [qif_y ⟨h8, h9⟩] at h
                  exact m_tnput (d := d) hW h4 (h _ A8)
                · rw [qif_n (fun hx => h9 hx.2)] at h
                  rw [mst_w12] at hV9
                  subst hV9
                  exact ⟨fun h10 => absurd h10 (hb _ _ (by omega)), fun _ => h _ (by have := hT.bnd (show i + 4 + 1 ≤ N by omega); omega)⟩
              · rw [qif_n (fun hx => h8 hx.1)] at h
                show RY d 307 96 _ _ _ D Q
                exact u_307_96 ⟨fun _ => ⟨fun h10 => absurd h10 (hb _ _ (by omega)), fun _ => h _ ha1⟩, fun h10 => absurd h10 (hb _ _ (by omega))⟩
            · rw [show i + 3 + 1 = i + 4 by omega] at h7 ⊢
              rw [qif_n h7] at h
              show RY d 307 74 _ _ _ D Q
              exact u_307_74 ⟨fun _ => m_tnput (d := d) hW h4 (h _ (Ah.beg hT (by omega))), fun h9 => absurd rfl h9⟩
          · rw [show i + 2 + 1 = i + 3 by omega] at h5 ⊢
            rw [qif_n h5] at h
            show RY d 307 52 _ _ _ D Q
            exact u_307_52 ⟨fun _ => ⟨fun h10 => absurd h10 (hb _ _ (by omega)), fun _ => h _ ha1⟩, fun h10 => absurd h10 (hb _ _ (by omega))⟩
        · rw [show i + 1 + 1 = i + 2 by omega] at h3 ⊢
          rw [qif_n h3] at h
          exact bad42 _ _ _ (hb _ _ (by omega)) (h _ (hR.nn (by omega)).2)
      · rw [qif_n h2] at h
        exact bad31 _ _ _ (hb _ _ (by omega)) (h _ ha1)
    · rw [qif_n h1] at h
      exact bad21 _ _ (hb _ _ (by omega)) (h _ (hR.nn (by omega)).2)
  · rw [qif_n (by omega)] at h
    rw [mst_w12] at hV1
    rw [hV1]
    exact bad_exp (hb _ _ hi0) (bad21 _ _ (hb _ _ hi0) (h _ ha0))
theorem m_doorLine (hR : HR V T m N) (hW : WF p) {d i : Nat} {Q : xRes → xF → yD → Prop} (hi : i ≤ N) (ha : Ah T i a) (h : qOk (hDoor T p i) (mhS V D T Q) (mhF V D T p Q)) : RY d 308 0 [vr 405, vr 0, vr 0, vr 0] [] (mst (r6 V p) a (-1) 0) D Q := by
  have hT := hR.1
  have h3' := hW.1
  have hb : ∀ (e : Nat) (a' : Int), e ≤ N → (mst (r6 V p) a' (T.2.2.1 e) 0) 405 12 ≠ -1 := fun e a' he => by rw [mst_12]; exact (hR.nn he).1
  have e3 : ∀ (a f : Int), (mst (r6 V p) a f 0) 406 3 = p 3 := fun a f => by rw [mst_n (by decide), r6_6]
  have e9 : wr (p 3 - 1) = p 3 - 1 := wr_id (by omega) (by omega)
  have bad32 : ∀ (V1 : xF) (i1 i2 v : Int), V1 405 12 ≠ -1 → Q (.inl none) V1 D → RY d 308 32 [vr 405, vi i1, vi i2, vr 0] [vi v] V1 D Q := fun V1 i1 i2 v hb hq => u_308_32 ⟨fun _ => ⟨fun _ => hq, fun h5 => absurd h5 hb⟩, fun h5 => absurd h5 hb⟩
  unfold hDoor at h
  refine u_308_0 ?_
  rw [e3, e9]
  refine hR.num hi ha (fun h1 l1 A1 => ?_) (fun h1 v a' ha1 => ?_)
  · rw [qif_y h1] at h
    have b1 := isN_b h1
    show RY d 308 13 _ _ _ D Q
    refine u_308_13 (m_here hT (hR.lr (p := p)).2.1 l1 A1 ?_)
    show RY d 308 18 _ _ _ D Q
    refine u_308_18 ?_
    rw [e3, e9]
    refine hR.num l1 (Ah.beg hT l1) (fun h2 l2 A2 => ?_) (fun h2 v a' ha1 => ?_)
    · have b2 : 0 ≤ nv T (i + 1) ∧ nv T (i + 1) ≤ p 3 - 1 := isN_b h2
      show RY d 308 32 _ _ _ D Q
      obtain ⟨r, hr⟩ : ∃ r : Nat, nv T i = (r : Int) := ⟨(nv T i).toNat, by clear e9; omega⟩
      obtain ⟨o, ho⟩ : ∃ o : Nat, nv T (i + 1) = (o : Int) := ⟨(nv T (i + 1)).toNat, by clear e9; omega⟩
      clear e9
      rw [hr, ho]
      have r5 : r < 5 := by omega
      have o5 : o < 5 := by omega
      have e1 : wr ((wr ((66 : Int) + (wr ((5 : Int) * (r : Int))))) + (o : Int)) = ((66 + 5 * r + o : Nat) : Int) := by rw [wr_id (x := (5 : Int) * (r : Int)) (by omega) (by omega), wr_id (x := (66 : Int) + 5 * (r : Int)) (by omega) (by omega), wr_id (by omega) (by omega)]; omega
      have e2 : wr ((wr ((66 : Int) + (wr ((5 : Int) * (o : Int))))) + (r : Int)) = ((66 + 5 * o + r : Nat) : Int) := by clear e1; rw [wr_id (x := (5 : Int) * (o : Int)) (by omega) (by omega), wr_id (x := (66 : Int) + 5 * (o : Int)) (by omega) (by omega), wr_id (by omega) (by omega)]; omega
      refine u_308_32 ?_
      rw [e1, e2]
      clear e1 e2
      refine ⟨fun h5 => absurd mst_12 h5, fun _ => ⟨fun hne => ⟨fun h5 => absurd mst_12 h5, fun _ => ⟨by omega, ?_⟩⟩, fun he => ⟨fun h5 => absurd mst_12 h5, fun _ V7 hV7 => ?_⟩⟩⟩
      · rw [qif_y ⟨h2, by rw [hr, ho]; exact hne⟩, hr, ho, nn_toNat, nn_toNat] at h
        rintro V3 rfl
        refine ⟨by omega, ?_⟩
        rintro V4 rfl
        rw [nn_toNat, nn_toNat, r6_up, r6_up]
        exact h _ A2
      · rw [qif_n (fun hx => hx.2 (by rw [hr, ho]; exact he))] at h
        rw [mst_w12] at hV7
        subst hV7
        exact ⟨fun _ => h _ (by have := hT.bnd l1; omega), fun h5 => absurd h5 (hb _ _ l1)⟩
    · rw [qif_n (fun hx => h2 hx.1)] at h
      exact bad32 _ _ _ _ (hb _ _ l1) (h _ ha1)
  · rw [qif_n h1] at h
    show RY d 308 13 _ _ _ D Q
    refine u_308_13 (hR.bhere ha1 (fun a2 ha2 => ?_))
    show RY d 308 18 _ _ _ D Q
    refine u_308_18 ?_
    exact bad_num (hb _ _ hi) (bad32 _ _ _ _ (hb _ _ hi) (h _ ha2))
theorem m_atLine (hR : HR V T m N) (hW : WF p) {d i : Nat} {Q : xRes → xF → yD → Prop} (hi : i ≤ N) (ha : Ah T i a) (h : qOk (hAt T p i) (mhS V D T Q) (mhF V D T p Q)) : RY d 309 0 [vr 405, vr 0, vr 0, vr 0] [] (mst (r6 V p) a (-1) 0) D Q := by
  have hT := hR.1
  have h3' := hW.1
  have hb : ∀ (e : Nat) (a' : Int), e ≤ N → (mst (r6 V p) a' (T.2.2.1 e) 0) 405 12 ≠ -1 := fun e a' he => by rw [mst_12]; exact (hR.nn he).1
  have e3 : ∀ (a f : Int), (mst (r6 V p) a f 0) 406 = p := fun a f => by rw [mst_n (by decide), r6_6]
  have e9 : wr (p 3 - 1) = p 3 - 1 := wr_id (by omega) (by omega)
  have bad65 : ∀ (V1 : xF) (i1 i2 v : Int), V1 405 12 ≠ -1 → Q (.inl none) V1 D → RY d 309 65 [vr 405, vi i1, vi i2, vr 0] [vi v] V1 D Q := fun V1 i1 i2 v hb hq => u_309_65 ⟨fun h5 => absurd h5 hb, fun _ => hq⟩
  have bad39 : ∀ (V1 : xF) (i1 v : Int), V1 405 12 ≠ -1 → Q (.inl none) V1 D → RY d 309 39 [vr 405, vi i1, vr 0, vr 0] [vi v] V1 D Q := fun V1 i1 v hb hq => u_309_39 ⟨fun _ => bad_num hb (bad65 V1 _ _ _ hb hq), fun h5 => absurd h5 hb⟩
  unfold hAt at h
  refine u_309_0 ?_
  rw [show (mst (r6 V p) a (-1) 0) 406 3 = p 3 by rw [e3], e9]
  clear e9
  refine hR.num hi ha (fun h1 l1 A1 => ?_) (fun h1 v a' ha1 => ?_)
  · rw [qif_y h1] at h
    have b1 := isN_b h1
    show RY d 309 13 _ _ _ D Q
    obtain ⟨r, hr⟩ : ∃ r : Nat, nv T i = (r : Int) := ⟨(nv T i).toNat, by omega⟩
    rw [hr] at h ⊢
    rw [nn_toNat] at h
    have r5 : r < 5 := by omega
    obtain ⟨-, hw, hd⟩ := hW.room (r := r) (by omega)
    have y0 := yg133 (V := mst (r6 V p) (T.2.2.2 i) (-1) 0) (D := D) (r := r) (k := 0) r5 (by omega)
    refine u_309_13 ⟨fun h5 => absurd mst_12 h5, fun _ => ⟨y0, ?_⟩⟩
    rw [yr133_0 r5, e3, wr_id (x := rW p r - 1) (by omega) (by omega)]
    refine hR.num l1 A1 (fun h2 l2 A2 => ?_) (fun h2 v a' ha1 => ?_)
    · rw [qif_y h2] at h
      have b2 := isN_b h2
      show RY d 309 39 _ _ _ D Q
      have y1 := yg133 (V := mst (r6 V p) (T.2.2.2 (i + 1)) (-1) 0) (D := D) (r := r) (k := 1) r5 (by omega)
      refine u_309_39 ⟨fun h5 => absurd mst_12 h5, fun _ => ⟨y1, ?_⟩⟩
      rw [yr133_1 r5, e3, wr_id (x := rD p r - 1) (by omega) (by omega)]
      refine hR.num (show i + 1 + 1 ≤ N by omega) A2 (fun h4 l4 A4 => ?_) (fun h4 v a' ha1 => ?_)
      · rw [show i + 1 + 1 = i + 2 by omega] at h4 l4 A4 ⊢
        rw [qif_y h4] at h
        show RY d 309 65 _ _ _ D Q
        refine u_309_65 ⟨fun _ => ?_, fun h5 => absurd mst_12 h5⟩
        rintro V1 rfl V2 rfl V3 rfl
        rw [r6_up, r6_up, r6_up]
        exact h _ A4
      · rw [show i + 1 + 1 = i + 2 by omega] at h4 ⊢
        rw [qif_n h4] at h
        exact bad65 _ _ _ _ (hb _ _ (by omega)) (h _ ha1)
    · rw [qif_n h2] at h
      exact bad39 _ _ _ (hb _ _ l1) (h _ ha1)
  · rw [qif_n h1] at h
    show RY d 309 13 _ _ _ D Q
    exact u_309_13 ⟨fun _ => bad_num (hb _ _ hi) (bad39 _ _ _ (hb _ _ hi) (h _ ha1)), fun h5 => absurd h5 (hb _ _ hi)⟩
theorem m_tells (hR : HR V T m N) {d i k : Nat} {lo hi : Int} {Q : xRes → xF → yD → Prop} (hk : k < 331) (hi' : i ≤ N) (ha : Ah T i a) (h : qOk (hNum T p k lo hi i) (mhS V D T Q) (mhF V D T p Q)) : RY d 310 0 [vr 405, vi (k : Int), vi lo, vi hi, vr 0] [] (mst (r6 V p) a (-1) 0) D Q := by
  unfold hNum at h
  refine u_310_0 (hR.num hi' ha (fun h1 l1 A1 => ?_) (fun h1 v a' ha1 => ?_))
  · rw [qif_y h1] at h
    show RY d 310 6 _ _ _ D Q
    refine u_310_6 ⟨fun h5 => absurd mst_12 h5, fun _ => ⟨by omega, ?_⟩⟩
    rintro V1 rfl
    rw [nn_toNat, r6_up]
    exact h _ A1
  · rw [qif_n h1] at h
    show RY d 310 6 _ _ _ D Q
    exact u_310_6 ⟨fun _ => h _ ha1, fun h5 => absurd (mst_12.symm.trans h5) (hR.nn hi').1⟩
theorem m_houseLine (hR : HR V T m N) (hW : WF p) {d i : Nat} {Q : xRes → xF → yD → Prop} (hi : i ≤ N) (ha : Ah T i a) (h : qOk (hLine T p i) (mhS V D T Q) (mhF V D T p Q)) : RY d 231 0 [vr 405, vr 0, vr 0] [] (mst (r6 V p) a (-1) 0) D Q := by
  have hT := hR.1
  have hnn := (hR.nn hi).2
  unfold hLine at h
  have pos : ∀ j, j ≤ N → 0 ≤ T.2.2.2 j := fun j hj => by have := hT.bnd hj; omega
  refine u_231_0 (m_here hT (hR.lr (p := p)).2.1 hi ha ?_)
  show RY d 231 4 _ _ _ D Q
  refine u_231_4 (hR.lr.has (by omega) (by omega) hi (Ah.beg hT hi) (fun hlt ht => ?_) (fun ht => ?_))
  · rw [qif_y ht] at h
    show RY d 231 11 _ _ _ D Q
    refine u_231_11 ⟨fun h5 => absurd h5 (by decide), fun _ => m_roomLine hR hW hi (i := i + 1) hlt (Ah.nxt hT hlt) (pos i hi) ?_⟩
    exact qOk_mono (fun j q _ hh a' hA => u_231_19 (hh a' hA)) (fun e _ hh a' h0 => u_231_19 (hh a' h0)) h
  rw [qif_n ht] at h
  show RY d 231 11 _ _ _ D Q
  refine u_231_11 ⟨fun _ => hR.lr.has (by omega) (by omega) hi (Ah.beg hT hi) (fun hlt ht => ?_) (fun ht => ?_), fun h5 => absurd rfl h5⟩
  · rw [qif_y ht] at h
    show RY d 231 28 _ _ _ D Q
    refine u_231_28 ⟨fun h5 => absurd h5 (by decide), fun _ => m_tenantLine hR hW hi (i := i + 1) hlt (Ah.nxt hT hlt) (pos i hi) ?_⟩
    exact qOk_mono (fun j q _ hh a' hA => u_231_36 (hh a' hA)) (fun e _ hh a' h0 => u_231_36 (hh a' h0)) h
  rw [qif_n ht] at h
  show RY d 231 28 _ _ _ D Q
  refine u_231_28 ⟨fun _ => hR.lr.has (by omega) (by omega) hi (Ah.beg hT hi) (fun hlt ht => ?_) (fun ht => ?_), fun h5 => absurd rfl h5⟩
  · rw [qif_y ht] at h
    show RY d 231 45 _ _ _ D Q
    refine u_231_45 ⟨fun h5 => absurd h5 (by decide), fun _ => m_doorLine hR hW (i := i + 1) hlt (Ah.nxt hT hlt) ?_⟩
    exact qOk_mono (fun j q _ hh a' hA => u_231_52 (hh a' hA)) (fun e _ hh a' h0 => u_231_52 (hh a' h0)) h
  rw [qif_n ht] at h
  show RY d 231 45 _ _ _ D Q
  refine u_231_45 ⟨fun _ => hR.lr.has (by omega) (by omega) hi (Ah.beg hT hi) (fun hlt ht => ?_) (fun ht => ?_), fun h5 => absurd rfl h5⟩
  · rw [qif_y ht] at h
    show RY d 231 61 _ _ _ D Q
    refine u_231_61 ⟨fun h5 => absurd h5 (by decide), fun _ => m_atLine hR hW (i := i + 1) hlt (Ah.nxt hT hlt) ?_⟩
    exact qOk_mono (fun j q _ hh a' hA => u_231_68 (hh a' hA)) (fun e _ hh a' h0 => u_231_68 (hh a' h0)) h
  rw [qif_n ht] at h
  show RY d 231 61 _ _ _ D Q
  refine u_231_61 ⟨fun _ => hR.lr.has (by omega) (by omega) hi (Ah.beg hT hi) (fun hlt ht => ?_) (fun ht => ?_), fun h5 => absurd rfl h5⟩
  · rw [qif_y ht] at h
    show RY d 231 77 _ _ _ D Q
    refine u_231_77 ⟨fun h5 => absurd h5 (by decide), fun _ => m_tells hR (k := 8) (i := i + 1) (by omega) hlt (Ah.nxt hT hlt) ?_⟩
    exact qOk_mono (fun j q _ hh a' hA => u_231_90 (hh a' hA)) (fun e _ hh a' h0 => u_231_90 (hh a' h0)) h
  rw [qif_n ht] at h
  show RY d 231 77 _ _ _ D Q
  refine u_231_77 ⟨fun _ => hR.lr.has (by omega) (by omega) hi (Ah.beg hT hi) (fun hlt ht => ?_) (fun ht => ?_), fun h5 => absurd rfl h5⟩
  · rw [qif_y ht] at h
    unfold hDeaf at h
    show RY d 231 99 _ _ _ D Q
    refine u_231_99 ⟨fun h5 => absurd h5 (by decide), fun _ => hR.lr.has (by omega) (by omega) (show i + 1 ≤ N from hlt) (Ah.nxt hT hlt) (fun l2 t2 => ?_) (fun t2 => ?_)⟩
    · rw [qif_y t2] at h
      show RY d 231 108 _ _ _ D Q
      refine u_231_108 ⟨fun h5 => absurd h5 (by decide), fun _ V1 hV1 => ?_⟩
      rw [r6_up] at hV1
      rw [hV1]
      exact h _ (Ah.nxt hT l2)
    rw [qif_n t2] at h
    show RY d 231 108 _ _ _ D Q
    refine u_231_108 ⟨fun _ => hR.lr.has (by omega) (by omega) (show i + 1 ≤ N from hlt) (Ah.beg hT hlt) (fun l2 t2 => ?_) (fun t2 => ?_), fun h5 => absurd rfl h5⟩
    · rw [qif_y t2] at h
      show RY d 231 121 _ _ _ D Q
      refine u_231_121 ⟨fun h5 => absurd h5 (by decide), fun _ V1 hV1 => ?_⟩
      rw [r6_up] at hV1
      rw [hV1]
      exact h _ (Ah.nxt hT l2)
    rw [qif_n t2] at h
    show RY d 231 121 _ _ _ D Q
    refine u_231_121 ⟨fun _ => hR.lr.has (by omega) (by omega) (show i + 1 ≤ N from hlt) (Ah.beg hT hlt) (fun l2 t2 => ?_) (fun t2 => ?_), fun h5 => absurd rfl h5⟩
    · rw [qif_y t2] at h
      show RY d 231 134 _ _ _ D Q
      refine u_231_134 ⟨fun h5 => absurd h5 (by decide), fun _ V1 hV1 => ?_⟩
      rw [r6_up] at hV1
      rw [hV1]
      exact h _ (Ah.nxt hT l2)
    rw [qif_n t2] at h
    show RY d 231 134 _ _ _ D Q
    refine u_231_134 ⟨fun _ => m_here hT (hR.lr (p := p)).2.1 hlt (Ah.beg hT hlt) ?_, fun h5 => absurd rfl h5⟩
    show RY d 231 153 _ _ _ D Q
    refine u_231_153 ⟨fun h5 => absurd mst_12 h5, fun _ V1 hV1 => ?_⟩
    rw [mst_w12] at hV1
    rw [hV1]
    exact h _ (hR.nn hlt).2
  rw [qif_n ht] at h
  show RY d 231 99 _ _ _ D Q
  refine u_231_99 ⟨fun _ => hR.lr.has (by omega) (by omega) hi (Ah.beg hT hi) (fun hlt ht => ?_) (fun ht => ?_), fun h5 => absurd rfl h5⟩
  · rw [qif_y ht] at h
    show RY d 231 176 _ _ _ D Q
    refine u_231_176 ⟨fun h5 => absurd h5 (by decide), fun _ => m_tells hR (k := 10) (i := i + 1) (by omega) hlt (Ah.nxt hT hlt) ?_⟩
    exact qOk_mono (fun j q _ hh a' hA => u_231_187 (hh a' hA)) (fun e _ hh a' h0 => u_231_187 (hh a' h0)) h
  rw [qif_n ht] at h
  show RY d 231 176 _ _ _ D Q
  refine u_231_176 ⟨fun _ => hR.lr.has (by omega) (by omega) hi (Ah.beg hT hi) (fun hlt ht => ?_) (fun ht => ?_), fun h5 => absurd rfl h5⟩
  · rw [qif_y ht] at h
    show RY d 231 196 _ _ _ D Q
    refine u_231_196 ⟨fun h5 => absurd h5 (by decide), fun _ => m_tells hR (k := 11) (i := i + 1) (by omega) hlt (Ah.nxt hT hlt) ?_⟩
    exact qOk_mono (fun j q _ hh a' hA => u_231_208 (hh a' hA)) (fun e _ hh a' h0 => u_231_208 (hh a' h0)) h
  rw [qif_n ht] at h
  show RY d 231 196 _ _ _ D Q
  refine u_231_196 ⟨fun _ => hR.lr.has (by omega) (by omega) hi (Ah.beg hT hi) (fun hlt ht => ?_) (fun ht => ?_), fun h5 => absurd rfl h5⟩
  · rw [qif_y ht] at h
    show RY d 231 217 _ _ _ D Q
    refine u_231_217 ⟨fun h5 => absurd h5 (by decide), fun _ => m_tells hR (k := 12) (i := i + 1) (by omega) hlt (Ah.nxt hT hlt) ?_⟩
    exact qOk_mono (fun j q _ hh a' hA => u_231_230 (hh a' hA)) (fun e _ hh a' h0 => u_231_230 (hh a' h0)) h
  rw [qif_n ht] at h
  show RY d 231 217 _ _ _ D Q
  refine u_231_217 ⟨fun _ => ⟨fun h5 => absurd mst_12 h5, fun _ V1 hV1 => ?_⟩, fun h5 => absurd rfl h5⟩
  rw [mst_11, mst_w12] at hV1
  rw [hV1]
  exact h _ hnn
end MLINE
