/-! ===== A DOOR'S LINE, A SEAT'S, NUMBERS; ANY LINE ===== -/
section CHLINE
variable {V : xF} {D : yD} {T : TK} {m N i d : Nat} {p : Rw} {Q : xRes → xF → yD → Prop}
theorem c_doorLine (hC : CL V T m N i) (hS : St V 92 p) (hW : WF p) (h : qOk (hDoor T p i) (cS V D T m N Q) (cF V D T m N Q)) : RY d 353 0 [vr 247, vr 92, vr 0] [] V D Q := by
  have r3 := hW.1
  have e92 : V 92 0 = p 3 := hS.rooms
  have e9 : wr (p 3 - 1) = p 3 - 1 := wr_id (by omega) (by omega)
  unfold hDoor at h
  refine u_353_0_92 ?_
  rw [e92, e9]
  refine hC.nm (by omega) (fun l1 h1 X1 c1 v1 E1 J1 => ?_) (fun h1 => ?_)
  · rw [qif_y h1] at h
    have L1 := (Kp.rf (V := V)).s76 E1 J1
    have b1 := isN_b h1
    have f1 : X1 92 0 = p 3 := by rw [L1.at_ (by decide)]; exact e92
    show RY d 353 14 _ _ X1 D Q
    refine u_353_14_92 ⟨fun _ => ?_, fun h9 => absurd h9 (by decide)⟩
    rw [v1]
    refine c1.nb ?_
    show RY d 353 34 _ _ X1 D Q
    refine u_353_34_92 ⟨fun h9 => ?_, fun h9 => ?_⟩
    · rw [qif_n (fun hx => hx.2 h9)] at h
      exact h X1 c1 L1.hc
    · rw [f1, e9]
      refine c1.nm (by omega) (fun l2 h2 X2 c2 v2 E2 J2 => ?_) (fun h2 => ?_)
      · rw [qif_y ⟨h2, h9⟩] at h
        have L2 := L1.s76 E2 J2
        have b2 := isN_b h2
        show RY d 353 52 _ _ X2 D Q
        refine u_353_52_92 ⟨fun _ => ?_, fun h10 => absurd h10 (by decide)⟩
        rw [v2]
        refine c_setDoor_92 (L2.stt hS) hW ⟨⟨b1.1, by clear e9; omega⟩, b2.1, by clear e9; omega⟩ (fun e => h9 e.symm) (fun V' S' F' => ?_)
        rw [if_neg (by decide)] at S'
        show RY d 353 70 _ _ V' D Q
        refine u_353_70_92 ?_
        refine h V' (c2.kp (fun a ha _ => F' a (by simp; clear e9; omega)) (by rw [F'.at_ 76 (by decide)])) S' (L2.hc.tr ⟨fun a g1 g2 => F' a (by simp; clear e9; omega), fun j _ _ => by rw [F'.at_ 76 (by decide)]⟩)
      · rw [qif_n (fun hx => h2 hx.1)] at h
        show RY d 353 52 _ _ X1 D Q
        exact u_353_52_92 ⟨fun h10 => absurd rfl h10, fun _ => h X1 c1 L1.hc⟩
  · rw [qif_n h1] at h
    show RY d 353 14 _ _ V D Q
    exact u_353_14_92 ⟨fun h9 => absurd rfl h9, fun _ => h V hC Kp.rf.hc⟩
theorem c_atLine (hC : CL V T m N i) (hS : St V 92 p) (hW : WF p) (h : qOk (hAt T p i) (cS V D T m N Q) (cF V D T m N Q)) : RY d 354 0 [vr 247, vr 92, vr 0, vr 0] [] V D Q := by
  have r3 := hW.1
  have e92 : V 92 0 = p 3 := hS.rooms
  have e9 : wr (p 3 - 1) = p 3 - 1 := wr_id (by omega) (by omega)
  unfold hAt at h
  refine u_354_0_92 ?_
  rw [e92, e9]
  clear e9
  refine hC.nm (by omega) (fun l1 h1 X1 c1 v1 E1 J1 => ?_) (fun h1 => ?_)
  · rw [qif_y h1] at h
    have L1 := (Kp.rf (V := V)).s76 E1 J1
    have b1 := isN_b h1
    obtain ⟨r, hr⟩ : ∃ r : Nat, nv T i = (r : Int) := ⟨(nv T i).toNat, by omega⟩
    have r5 : r < 5 := by omega
    obtain ⟨-, hw, hd⟩ := hW.room (r := r) (by omega)
    rw [hr, nn_toNat] at h
    have f1 : X1 93 r = rW p r := by rw [L1.at_ (by decide)]; exact hS.2.1 r r5
    show RY d 354 14 _ _ X1 D Q
    refine u_354_14_92 ⟨fun _ => ?_, fun h9 => absurd h9 (by decide)⟩
    rw [v1, hr, nn_toNat, f1, wr_id (x := rW p r - 1) (by omega) (by omega)]
    refine ⟨by omega, c1.nm (by omega) (fun l2 h2 X2 c2 v2 E2 J2 => ?_) (fun h2 => ?_)⟩
    · rw [qif_y h2] at h
      have L2 := L1.s76 E2 J2
      have b2 := isN_b h2
      have f2 : X2 94 r = rD p r := by rw [L2.at_ (by decide)]; exact hS.2.2.1 r r5
      show RY d 354 43 _ _ X2 D Q
      refine u_354_43_92 ⟨fun _ => ?_, fun h9 => absurd h9 (by decide)⟩
      rw [v2, nn_toNat, f2, wr_id (x := rD p r - 1) (by omega) (by omega)]
      refine ⟨by omega, c2.nm (by omega) (fun l3 h3 X3 c3 v3 E3 J3 => ?_) (fun h3 => ?_)⟩
      · rw [show i + 1 + 1 = i + 2 by omega] at h3 c3 v3
        rw [qif_y h3] at h
        have L3 := L2.s76 E3 J3
        have b3 := isN_b h3
        show RY d 354 72 _ _ X3 D Q
        refine u_354_72_92 ⟨fun _ X4 hX4 X5 hX5 => ?_, fun h9 => absurd h9 (by decide)⟩
        have f4 : X4 76 6 = nv T (i + 2) := by rw [hX4, up2_na (by decide)]; exact v3
        rw [f4, yr265 (by omega) (by omega)] at hX5
        have L4 := L3.st (b := 92) (n := 12) (z := (r : Int)) (by omega)
        rw [← hX4] at L4
        have L5 := L4.st (b := 92) (n := 13) (z := 16 * nv T (i + 1) + nv T (i + 2)) (by omega)
        rw [← hX5] at L5
        have S5 := st_seat (s := 92) (r := (r : Int)) (x := nv T (i + 1)) (y := nv T (i + 2)) hS (by omega)
        exact h X5 (by rw [hX5, hX4]; exact (c3.st (by omega)).st (by omega)) (L5.stt S5) L5.hc
      · rw [show i + 1 + 1 = i + 2 by omega] at h3 c2
        rw [qif_n h3] at h
        show RY d 354 72 _ _ X2 D Q
        exact u_354_72_92 ⟨fun h9 => absurd rfl h9, fun _ => h X2 c2 L2.hc⟩
    · rw [qif_n h2] at h
      show RY d 354 43 _ _ X1 D Q
      exact u_354_43_92 ⟨fun h9 => absurd rfl h9, fun _ => h X1 c1 L1.hc⟩
  · rw [qif_n h1] at h
    show RY d 354 14 _ _ V D Q
    exact u_354_14_92 ⟨fun h9 => absurd rfl h9, fun _ => h V hC Kp.rf.hc⟩
theorem c_deafLine (hC : CL V T m N i) (hS : St V 92 p) (h : qOk (hDeaf T p i) (cS V D T m N Q) (cF V D T m N Q)) : RY d 355 0 [vr 247, vr 92] [] V D Q := by
  obtain ⟨w3, w4, w5, w7, w8, w9, w10, w11, w12, w13, w14, w15, w16, w17, w18, w19, w20, w21⟩ := hd_eq
  have put : ∀ (z : Int) (X X' : xF), CL X T m N (i + 1) → Kp V V X → X' = up2 X 92 15 z → cS V D T m N Q (i + 1) (rup p 9 z) → Q (.inl (some (vi 1))) X' D := fun z X X' hc hk hX hh => by
    have L := hk.st (b := 92) (n := 15) (z := z) (by omega)
    rw [← hX] at L
    exact hh X' (by rw [hX]; exact hc.st (by omega)) (L.stt (st_deaf (s := 92) (z := z) hS)) L.hc
  unfold hDeaf at h
  refine u_355_0_92 (hC.wd (by omega) (by omega) (fun l1 h1 X1 c1 E1 J1 => ?_) (fun h1 => ?_))
  · rw [w15] at h1
    rw [qif_n (show ¬ kW T i (wdS 65) from fun hx => hd_ne.2.1 (tW_uni h1 hx)), qif_n (show ¬ kW T i (wdS 66) from fun hx => hd_ne.2.2 (tW_uni h1 hx)), qif_y h1] at h
    show RY d 355 9 _ _ X1 D Q
    exact u_355_9_92 ⟨fun h9 => absurd h9 (by decide), fun _ X2 hX2 => put 0 X1 X2 c1 (Kp.rf.s76 E1 J1) hX2 h⟩
  rw [w15] at h1
  show RY d 355 9 _ _ V D Q
  refine u_355_9_92 ⟨fun _ => hC.wd (by omega) (by omega) (fun l2 h2 X1 c1 E1 J1 => ?_) (fun h2 => ?_), fun h9 => absurd rfl h9⟩
  · rw [w16] at h2
    rw [qif_y h2] at h
    show RY d 355 29 _ _ X1 D Q
    exact u_355_29_92 ⟨fun h9 => absurd h9 (by decide), fun _ X2 hX2 => put 1 X1 X2 c1 (Kp.rf.s76 E1 J1) hX2 h⟩
  rw [w16] at h2
  rw [qif_n h2] at h
  show RY d 355 29 _ _ V D Q
  refine u_355_29_92 ⟨fun _ => hC.wd (by omega) (by omega) (fun l3 h3 X1 c1 E1 J1 => ?_) (fun h3 => ?_), fun h9 => absurd rfl h9⟩
  · rw [w17] at h3
    rw [qif_y h3] at h
    show RY d 355 49 _ _ X1 D Q
    exact u_355_49_92 ⟨fun h9 => absurd h9 (by decide), fun _ X2 hX2 => put 2 X1 X2 c1 (Kp.rf.s76 E1 J1) hX2 h⟩
  rw [w17] at h3
  rw [qif_n h3, qif_n h1] at h
  show RY d 355 49 _ _ V D Q
  exact u_355_49_92 ⟨fun _ => h V hC Kp.rf.hc, fun h9 => absurd rfl h9⟩
noncomputable def hNums (T : TK) (p : Rw) (i : Nat) : hRes := qif (kW T i (wdS 63)) (hNum T p 8 0 999 (i + 1)) (qif (kW T i (wdS 68)) (hNum T p 10 1 3 (i + 1)) (qif (kW T i (wdS 69)) (hNum T p 11 0 100 (i + 1)) (qif (kW T i (wdS 53)) (hNum T p 12 0 999 (i + 1)) (i, none))))
theorem c_numLine (hC : CL V T m N i) (hS : St V 92 p) (h : qOk (hNums T p i) (cS V D T m N Q) (cF V D T m N Q)) : RY d 356 0 [vr 247, vr 92] [] V D Q := by
  obtain ⟨w3, w4, w5, w7, w8, w9, w10, w11, w12, w13, w14, w15, w16, w17, w18, w19, w20, w21⟩ := hd_eq
  have put : ∀ (c k : Nat) (X X' : xF), CL X T m N (i + 1 + 1) → Kp V V X → (∀ z, St (up2 V 92 c z) 92 (rup p k z)) → X' = up2 X 92 c (nv T (i + 1)) → cS V D T m N Q (i + 1 + 1) (rup p k (nv T (i + 1))) → Q (.inl (some (vi 1))) X' D := fun c k X X' hc hk hst hX hh => by
    have L := hk.st (b := 92) (n := c) (z := nv T (i + 1)) (by omega)
    rw [← hX] at L
    exact hh X' (by rw [hX]; exact hc.st (by omega)) (L.stt (hst _)) L.hc
  unfold hNums at h
  refine u_356_0_92 (hC.wd (by omega) (by omega) (fun l1 h1 X1 c1 E1 J1 => ?_) (fun h1 => ?_))
  · rw [w18] at h1
    rw [qif_y h1] at h
    unfold hNum at h
    show RY d 356 9 _ _ X1 D Q
    refine u_356_9_92 ⟨fun h9 => absurd h9 (by decide), fun _ => c1.nm (by omega) (fun l2 h2 X2 c2 v2 E2 J2 => ?_) (fun h2 => ?_)⟩
    · rw [qif_y h2] at h
      show RY d 356 23 _ _ X2 D Q
      exact u_356_23_92 ⟨fun _ X3 hX3 => put 14 8 X2 X3 c2 ((Kp.rf.s76 E1 J1).s76 E2 J2) (fun z => st_ear hS) (by rw [hX3, v2]) h, fun h9 => absurd h9 (by decide)⟩
    · rw [qif_n h2] at h
      show RY d 356 23 _ _ X1 D Q
      exact u_356_23_92 ⟨fun h9 => absurd rfl h9, fun _ => h X1 c1 (Kp.rf.s76 E1 J1).hc⟩
  rw [w18] at h1
  rw [qif_n h1] at h
  show RY d 356 9 _ _ V D Q
  refine u_356_9_92 ⟨fun _ => hC.wd (by omega) (by omega) (fun l1 h1 X1 c1 E1 J1 => ?_) (fun h1 => ?_), fun h9 => absurd rfl h9⟩
  · rw [w19] at h1
    rw [qif_y h1] at h
    unfold hNum at h
    show RY d 356 51 _ _ X1 D Q
    refine u_356_51_92 ⟨fun h9 => absurd h9 (by decide), fun _ => c1.nm (by omega) (fun l2 h2 X2 c2 v2 E2 J2 => ?_) (fun h2 => ?_)⟩
    · rw [qif_y h2] at h
      show RY d 356 63 _ _ X2 D Q
      exact u_356_63_92 ⟨fun _ X3 hX3 => put 16 10 X2 X3 c2 ((Kp.rf.s76 E1 J1).s76 E2 J2) (fun z => st_bounces hS) (by rw [hX3, v2]) h, fun h9 => absurd h9 (by decide)⟩
    · rw [qif_n h2] at h
      show RY d 356 63 _ _ X1 D Q
      exact u_356_63_92 ⟨fun h9 => absurd rfl h9, fun _ => h X1 c1 (Kp.rf.s76 E1 J1).hc⟩
  rw [w19] at h1
  rw [qif_n h1] at h
  show RY d 356 51 _ _ V D Q
  refine u_356_51_92 ⟨fun _ => hC.wd (by omega) (by omega) (fun l1 h1 X1 c1 E1 J1 => ?_) (fun h1 => ?_), fun h9 => absurd rfl h9⟩
  · rw [w20] at h1
    rw [qif_y h1] at h
    unfold hNum at h
    show RY d 356 91 _ _ X1 D Q
    refine u_356_91_92 ⟨fun h9 => absurd h9 (by decide), fun _ => c1.nm (by omega) (fun l2 h2 X2 c2 v2 E2 J2 => ?_) (fun h2 => ?_)⟩
    · rw [qif_y h2] at h
      show RY d 356 104 _ _ X2 D Q
      exact u_356_104_92 ⟨fun _ X3 hX3 => put 17 11 X2 X3 c2 ((Kp.rf.s76 E1 J1).s76 E2 J2) (fun z => st_shift hS) (by rw [hX3, v2]) h, fun h9 => absurd h9 (by decide)⟩
    · rw [qif_n h2] at h
      show RY d 356 104 _ _ X1 D Q
      exact u_356_104_92 ⟨fun h9 => absurd rfl h9, fun _ => h X1 c1 (Kp.rf.s76 E1 J1).hc⟩
  rw [w20] at h1
  rw [qif_n h1] at h
  show RY d 356 91 _ _ V D Q
  refine u_356_91_92 ⟨fun _ => hC.wd (by omega) (by omega) (fun l1 h1 X1 c1 E1 J1 => ?_) (fun h1 => ?_), fun h9 => absurd rfl h9⟩
  · rw [w21] at h1
    rw [qif_y h1] at h
    unfold hNum at h
    show RY d 356 132 _ _ X1 D Q
    refine u_356_132_92 ⟨fun h9 => absurd h9 (by decide), fun _ => c1.nm (by omega) (fun l2 h2 X2 c2 v2 E2 J2 => ?_) (fun h2 => ?_)⟩
    · rw [qif_y h2] at h
      show RY d 356 146 _ _ X2 D Q
      exact u_356_146_92 ⟨fun _ X3 hX3 => put 18 12 X2 X3 c2 ((Kp.rf.s76 E1 J1).s76 E2 J2) (fun z => st_day hS) (by rw [hX3, v2]) h, fun h9 => absurd h9 (by decide)⟩
    · rw [qif_n h2] at h
      show RY d 356 146 _ _ X1 D Q
      exact u_356_146_92 ⟨fun h9 => absurd rfl h9, fun _ => h X1 c1 (Kp.rf.s76 E1 J1).hc⟩
  rw [w21] at h1
  rw [qif_n h1] at h
  show RY d 356 132 _ _ V D Q
  exact u_356_132_92 ⟨fun _ => h V hC Kp.rf.hc, fun h9 => absurd rfl h9⟩
theorem c_hline (hC : CL V T m N i) (hS : St V 92 p) (hW : WF p) (h : qOk (hLine T p i) (cS V D T m N Q) (cF V D T m N Q)) : RY d 299 0 [vr 247, vr 92] [] V D Q := by
  obtain ⟨w3, w4, w5, w7, w8, w9, w10, w11, w12, w13, w14, w15, w16, w17, w18, w19, w20, w21⟩ := hd_eq
  have r3 := hW.1
  have r4 := hW.2.1
  have e92 : V 92 0 = p 3 := hS.rooms
  have e6 : V 92 6 = p 4 := hS.tens
  have kk : ∀ s, kW T i s → T.2.1 i ≠ 3 := fun s hs => by rw [hs.1]; decide
  unfold hLine at h
  refine u_299_0_92 (hC.iW (by omega) (by omega) (fun h1 => ?_) (fun h1 => ?_))
  · rw [w3] at h1
    rw [qif_y h1] at h
    show RY d 299 9 _ _ V D Q
    refine u_299_9_92 ⟨fun h9 => absurd h9 (by decide), fun _ => ?_⟩
    rw [e92]
    refine ⟨fun h9 => ?_, fun h9 => ?_⟩
    · rw [qif_n (by omega)] at h
      exact h V hC Kp.rf.hc
    · rw [qif_y h9] at h
      refine c_roomLine hC hS hW h9 (kk _ h1) ?_
      exact qOk_mono (fun j q _ hh V' c s k => u_299_25_92 ⟨fun h10 => absurd h10 (by decide), fun _ => hh V' c s k⟩) (fun e _ hh V' c k => u_299_25_92 ⟨fun _ => hh V' c k, fun h10 => absurd rfl h10⟩) h
  rw [w3] at h1
  rw [qif_n h1] at h
  show RY d 299 9 _ _ V D Q
  refine u_299_9_92 ⟨fun _ => hC.iW (by omega) (by omega) (fun h2 => ?_) (fun h2 => ?_), fun h9 => absurd rfl h9⟩
  · rw [w8] at h2
    rw [qif_y h2] at h
    show RY d 299 43 _ _ V D Q
    refine u_299_43_92 ⟨fun h9 => absurd h9 (by decide), fun _ => ?_⟩
    rw [e6]
    refine ⟨fun h9 => ?_, fun h9 => ?_⟩
    · rw [qif_n (by omega)] at h
      exact h V hC Kp.rf.hc
    · rw [qif_y h9] at h
      refine c_tenantLine hC hS hW h9 (kk _ h2) ?_
      exact qOk_mono (fun j q _ hh V' c s k => u_299_59_92 ⟨fun h10 => absurd h10 (by decide), fun _ => hh V' c s k⟩) (fun e _ hh V' c k => u_299_59_92 ⟨fun _ => hh V' c k, fun h10 => absurd rfl h10⟩) h
  rw [w8] at h2
  rw [qif_n h2] at h
  show RY d 299 43 _ _ V D Q
  refine u_299_43_92 ⟨fun _ => hC.wd (by omega) (by omega) (fun l3 h3 X1 c1 E1 J1 => ?_) (fun h3 => ?_), fun h9 => absurd rfl h9⟩
  · rw [w12] at h3
    rw [qif_y h3] at h
    have L1 := (Kp.rf (V := V)).s76 E1 J1
    show RY d 299 77 _ _ X1 D Q
    refine u_299_77_92 ⟨fun h9 => absurd h9 (by decide), fun _ => c_doorLine c1 (L1.stt hS) hW ?_⟩
    exact qOk_mono (fun j q _ hh V' c s k => u_299_85_92 ⟨Or.inr rfl, hh V' c s (L1.hc.tr k)⟩) (fun e _ hh V' c k => u_299_85_92 ⟨Or.inl rfl, hh V' c (L1.hc.tr k)⟩) h
  rw [w12] at h3
  rw [qif_n h3] at h
  show RY d 299 77 _ _ V D Q
  refine u_299_77_92 ⟨fun _ => hC.wd (by omega) (by omega) (fun l4 h4 X1 c1 E1 J1 => ?_) (fun h4 => ?_), fun h9 => absurd rfl h9⟩
  · rw [w13] at h4
    rw [qif_y h4] at h
    have L1 := (Kp.rf (V := V)).s76 E1 J1
    show RY d 299 95 _ _ X1 D Q
    refine u_299_95_92 ⟨fun h9 => absurd h9 (by decide), fun _ => c_atLine c1 (L1.stt hS) hW ?_⟩
    exact qOk_mono (fun j q _ hh V' c s k => u_299_103_92 ⟨Or.inr rfl, hh V' c s (L1.hc.tr k)⟩) (fun e _ hh V' c k => u_299_103_92 ⟨Or.inl rfl, hh V' c (L1.hc.tr k)⟩) h
  rw [w13] at h4
  rw [qif_n h4] at h
  show RY d 299 95 _ _ V D Q
  refine u_299_95_92 ⟨fun _ => hC.wd (by omega) (by omega) (fun l5 h5 X1 c1 E1 J1 => ?_) (fun h5 => ?_), fun h9 => absurd rfl h9⟩
  · rw [w14] at h5
    rw [qif_n (show ¬ kW T i (wdS 63) from fun hx => hd_ne.1 (tW_uni hx h5)), qif_y h5] at h
    have L1 := (Kp.rf (V := V)).s76 E1 J1
    show RY d 299 113 _ _ X1 D Q
    refine u_299_113_92 ⟨fun h9 => absurd h9 (by decide), fun _ => c_deafLine c1 (L1.stt hS) ?_⟩
    exact qOk_mono (fun j q _ hh V' c s k => u_299_121_92 ⟨Or.inr rfl, hh V' c s (L1.hc.tr k)⟩) (fun e _ hh V' c k => u_299_121_92 ⟨Or.inl rfl, hh V' c (L1.hc.tr k)⟩) h
  rw [w14] at h5
  show RY d 299 113 _ _ V D Q
  refine u_299_113_92 ⟨fun _ => c_numLine hC hS ?_, fun h9 => absurd rfl h9⟩
  have h' : qOk (hNums T p i) (cS V D T m N Q) (cF V D T m N Q) := by
    unfold hNums
    by_cases h63 : kW T i (wdS 63)
    · rw [qif_y h63] at h ⊢
      exact h
    · rw [qif_n h63, qif_n h5] at h
      rw [qif_n h63]
      exact h
  exact qOk_mono (fun j q _ hh V' c s k => u_299_127_92 ⟨Or.inr rfl, hh V' c s k⟩) (fun e _ hh V' c k => u_299_127_92 ⟨Or.inl rfl, hh V' c k⟩) h'
end CHLINE
