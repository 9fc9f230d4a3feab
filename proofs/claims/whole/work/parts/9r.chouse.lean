/-! ===== THE CLASS READS LINES OF THE HOUSE ===== -/
section CHOUSE
variable {V : xF} {D : yD} {T : TK} {m N i d : Nat} {p : Rw} {Q : xRes → xF → yD → Prop}
abbrev cS (V : xF) (D : yD) (T : TK) (m N : Nat) (Q : xRes → xF → yD → Prop) : Nat → Rw → Prop := fun j q => ∀ V', CL V' T m N j → St V' 92 q → HCh V V' → Q (.inl (some (vi 1))) V' D
abbrev cF (V : xF) (D : yD) (T : TK) (m N : Nat) (Q : xRes → xF → yD → Prop) : Nat → Prop := fun e => ∀ V', CL V' T m N e → HCh V V' → Q (.inl (some (vi 0))) V' D
/-- a thing that is known is stepped over -/
theorem CL.nx (h : CL V T m N i) (hk : T.2.1 i ≠ 3) : i < N ∧ T.2.1 i ≠ 3 := ⟨h.2.2.2.1.lt h.2.1 hk, hk⟩
theorem rm_ext {n : Nat} {w e z : Int} {s : Nat → Int} (hn : p 3 = (n : Int)) (k : Nat) : rmR p w e z s k = rup (rup (rup (rup (rup (rup (rup (rup p (16 + 7 * n) w) (17 + 7 * n) e) (18 + 7 * n + 0) (s 0)) (18 + 7 * n + 1) (s 1)) (18 + 7 * n + 2) (s 2)) (18 + 7 * n + 3) (s 3)) (22 + 7 * n) z) 3 ((n : Int) + 1) k := by
  have hnn : (p 3).toNat = n := by omega
  unfold rmR
  rw [hnn, hn]
  unfold rup
  by_cases h3 : k = 3
  · rw [if_pos h3, if_pos h3]
  rw [if_neg h3, if_neg h3]
  by_cases h22 : k = 22 + 7 * n
  · rw [if_pos h22, if_pos h22]
  rw [if_neg h22, if_neg h22]
  (repeat' split) <;> first | rfl | omega
theorem rm_ext2 {n : Nat} {w e z : Int} {s : Nat → Int} (hn : p 3 = (n : Int)) (k : Nat) : rmR p w e z s k = rup (rup (rup (rup (rup (rup (rup (rup (rup p (16 + 7 * n) w) (17 + 7 * n) e) (18 + 7 * n + 0) (s 0)) (18 + 7 * n + 1) (s 1)) (18 + 7 * n + 2) (s 2)) (18 + 7 * n + 3) (s 3)) (22 + 7 * n) 0) (22 + 7 * n) z) 3 ((n : Int) + 1) k := by
  rw [rm_ext hn]
  unfold rup
  by_cases h3 : k = 3
  · rw [if_pos h3, if_pos h3]
  rw [if_neg h3, if_neg h3]
  by_cases h22 : k = 22 + 7 * n
  · rw [if_pos h22, if_pos h22]
  rw [if_neg h22, if_neg h22, if_neg h22]
theorem c_roomLine (hC : CL V T m N i) (hS : St V 92 p) (hW : WF p) (h3 : p 3 < 5) (hK : T.2.1 i ≠ 3) (h : qOk (hRoom T p (i + 1)) (cS V D T m N Q) (cF V D T m N Q)) : RY d 350 0 [vr 247, vr 92, vr 0] [] V D Q := by
  have hw := hd_eq
  have r3 := hW.1
  obtain ⟨n, hn⟩ : ∃ n : Nat, p 3 = (n : Int) := ⟨(p 3).toNat, by omega⟩
  have hn5 : n < 5 := by omega
  have hlt := (hC.nx hK).1
  obtain ⟨a1, a2, a3, a4, a5, a6, a7, a8, a9⟩ := id hC
  have hN := a4.1
  have e92 : V 92 0 = (n : Int) := hS.1.trans hn
  unfold hRoom at h
  refine u_350_0_92 ?_
  rw [a1, nn_toNat, a5, e92]
  refine ⟨by omega, fun h9 => absurd h9 hK, fun _ V1 hV1 => ?_⟩
  rw [wr_id (x := (i : Int) + 1) (by omega) (by omega), show (i : Int) + 1 = ((i + 1 : Nat) : Int) by omega] at hV1
  have hC1 : CL V1 T m N (i + 1) := by rw [hV1]; exact hC.up hlt
  have K1 : Kp V V V1 := Kp.rf.s76 (fun a ha => by rw [hV1, up2_na ha]) (fun j h5 _ => by rw [hV1, up2_ni h5])
  clear hV1
  have bail : ∀ {e : Nat} {C X : xF}, Kp V C X → CL X T m N e → cF V D T m N Q e → Q (.inl (some (vi 0))) X D := fun hk hc hf => hf _ hc hk.hc
  refine hC1.nm (by omega) (fun l1 h1 X1 c1 v1 E1 J1 => ?_) (fun h1 => ?_)
  · rw [qif_y h1] at h
    have L1 := K1.s76 E1 J1
    show RY d 350 22 _ _ X1 D Q
    refine u_350_22_92 ⟨fun _ => ⟨by omega, ?_⟩, fun h9 => absurd h9 (by decide)⟩
    rintro X2 hX2
    rw [nn_toNat, v1] at hX2
    have c2 : CL X2 T m N (i + 1 + 1) := by rw [hX2]; exact c1.st (by omega)
    have L2 : Kp V (up2 V 93 n (nv T (i + 1))) X2 := by rw [hX2]; exact L1.st (by omega)
    clear hX2
    refine c2.wd (by omega) (by omega) (fun l2 h2 X3 c3 E3 J3 => ?_) (fun h2 => ?_)
    · rw [hw.2.1] at h2
      rw [qif_y h2] at h
      have L3 := L2.s76 E3 J3
      show RY d 350 49 _ _ X3 D Q
      refine u_350_49_92 ⟨fun h9 => absurd h9 (by decide), fun _ => c3.nm (by omega) (fun l3 h3 X4 c4 v4 E4 J4 => ?_) (fun h3 => ?_)⟩
      · rw [show i + 1 + 1 + 1 = i + 1 + 2 by omega] at h3 l3 c4 v4
        rw [qif_y h3] at h
        have L4 := L3.s76 E4 J4
        show RY d 350 62 _ _ X4 D Q
        refine u_350_62_92 ⟨fun _ => ⟨by omega, ?_⟩, fun h9 => absurd h9 (by decide)⟩
        rintro X5 hX5
        rw [nn_toNat, v4] at hX5
        have c5 : CL X5 T m N (i + 1 + 2 + 1) := by rw [hX5]; exact c4.st (by omega)
        have L5 : Kp V (up2 (up2 V 93 n (nv T (i + 1))) 94 n (nv T (i + 1 + 2))) X5 := by rw [hX5]; exact L4.st (by omega)
        clear hX5
        refine c5.wd (by omega) (by omega) (fun l5 h5 X6 c6 E6 J6 => ?_) (fun h5 => ?_)
        · rw [show i + 1 + 2 + 1 = i + 1 + 3 by omega] at h5 l5 c6
          rw [hw.2.2.1] at h5
          rw [qif_y h5] at h
          have L6 := L5.s76 E6 J6
          show RY d 350 89 _ _ X6 D Q
          refine u_350_89_92 ⟨fun h9 => absurd h9 (by decide), fun _ => ?_⟩
          rw [show i + 1 + 3 + 1 = i + 1 + 4 by omega] at c6
          obtain ⟨b1, b2, b3, b4, b5, b6, b7, b8, b9⟩ := id c6
          have ey : yg_374 X6 D ∧ yr_374 X6 D = if T.2.1 (i + 1 + 4) = 1 then T.2.2.2 (i + 1 + 4) - T.2.2.1 (i + 1 + 4) else -1 := by
            have hb := b4.bnd b2
            unfold yg_374 yr_374
            rw [b1, nn_toNat, b5, b6, b7, wr_id (x := T.2.2.2 (i + 1 + 4) - T.2.2.1 (i + 1 + 4)) (by omega) (by omega)]
            exact ⟨⟨by omega, fun _ => ⟨by omega, by omega⟩⟩, rfl⟩
          refine u_369_0_92 ⟨ey.1, ?_⟩
          rw [ey.2]
          have nowalls : ∀ {C X : xF}, Kp V C X → CL X T m N (i + 1 + 4) → ¬ isS T (i + 1 + 4) → RY d 350 98 [vr 247, vr 92, vi (n : Int)] [vi 0] X D Q := fun hk hc hs => by
            rw [qif_n hs] at h
            exact u_350_98_92 ⟨fun h9 => absurd rfl h9, fun _ => bail hk hc h⟩
          refine ⟨fun h4 => ?_, fun h4 => nowalls L6 c6 (fun hs => h4 (by rw [if_pos hs.1]; exact hs.2.1))⟩
          have hK1 : T.2.1 (i + 1 + 4) = 1 := Classical.byContradiction fun hc => by rw [if_neg hc] at h4; exact absurd h4 (by decide)
          rw [if_pos hK1] at h4
          have hKK : T.2.1 (i + 1 + 4) = 1 ∧ T.2.2.2 (i + 1 + 4) - T.2.2.1 (i + 1 + 4) = 4 := ⟨hK1, h4⟩
          refine c6.wall (k := 0) hn5 (by omega) hKK (fun s0 => ?_) (fun s0 => nowalls L6 c6 (fun hs => hs.2.2 0 (by omega) s0))
          have L7 := L6.st (b := 95) (n := 4 * n + 0) (z := srv T (i + 1 + 4) 0) (by omega)
          refine (c6.st (by omega)).wall (k := 1) hn5 (by omega) hKK (fun s1 => ?_) (fun s1 => nowalls L7 (c6.st (by omega)) (fun hs => hs.2.2 1 (by omega) s1))
          have L8 := L7.st (b := 95) (n := 4 * n + 1) (z := srv T (i + 1 + 4) 1) (by omega)
          refine ((c6.st (by omega)).st (by omega)).wall (k := 2) hn5 (by omega) hKK (fun s2 => ?_) (fun s2 => nowalls L8 ((c6.st (by omega)).st (by omega)) (fun hs => hs.2.2 2 (by omega) s2))
          have L9 := L8.st (b := 95) (n := 4 * n + 2) (z := srv T (i + 1 + 4) 2) (by omega)
          refine (((c6.st (by omega)).st (by omega)).st (by omega)).wall (k := 3) hn5 (by omega) hKK (fun s3 => ?_) (fun s3 => nowalls L9 (((c6.st (by omega)).st (by omega)).st (by omega)) (fun hs => hs.2.2 3 (by omega) s3))
          have L10 := L9.st (b := 95) (n := 4 * n + 3) (z := srv T (i + 1 + 4) 3) (by omega)
          have c10 := (((c6.st (b := 95) (n := 4 * n + 0) (z := srv T (i + 1 + 4) 0) (by omega)).st (b := 95) (n := 4 * n + 1) (z := srv T (i + 1 + 4) 1) (by omega)).st (b := 95) (n := 4 * n + 2) (z := srv T (i + 1 + 4) 2) (by omega)).st (b := 95) (n := 4 * n + 3) (z := srv T (i + 1 + 4) 3) (by omega)
          have hs : isS T (i + 1 + 4) := ⟨hK1, h4, fun k hk => by
            have : k = 0 ∨ k = 1 ∨ k = 2 ∨ k = 3 := by omega
            rcases this with rfl | rfl | rfl | rfl
            · exact s0
            · exact s1
            · exact s2
            · exact s3⟩
          have hss := fun k hk => hs.2.2 k hk
          rw [qif_y hs] at h
          generalize hX10 : up2 (up2 (up2 (up2 X6 95 (4 * n + 0) (srv T (i + 1 + 4) 0)) 95 (4 * n + 1) (srv T (i + 1 + 4) 1)) 95 (4 * n + 2) (srv T (i + 1 + 4) 2)) 95 (4 * n + 3) (srv T (i + 1 + 4) 3) = X10 at L10 c10 ⊢
          obtain ⟨d1, d2, d3, d4, d5, d6, d7, d8, d9⟩ := id c10
          have l6 := isS_lt d4 d2 hs
          refine u_369_15_92 ⟨fun _ => ?_, fun h9 => absurd h9 (by decide)⟩
          rw [d1, nn_toNat, d5]
          refine ⟨by omega, fun h9 => absurd (hK1.symm.trans h9) (by decide), fun _ X11 hX11 => ?_⟩
          rw [wr_id (x := ((i + 1 + 4 : Nat) : Int) + 1) (by omega) (by omega), show ((i + 1 + 4 : Nat) : Int) + 1 = ((i + 1 + 4 + 1 : Nat) : Int) by omega] at hX11
          have c11 : CL X11 T m N (i + 1 + 4 + 1) := by rw [hX11]; exact c10.up l6
          have L11 := L10.s76 (X' := X11) (fun a ha => by rw [hX11, up2_na ha]) (fun j h5 _ => by rw [hX11, up2_ni h5])
          clear hX11 hX10
          rw [show i + 1 + 4 + 1 = i + 1 + 5 by omega] at c11
          unfold hRent at h
          show RY d 350 98 _ _ X11 D Q
          refine u_350_98_92 ⟨fun _ => ⟨by omega, ?_⟩, fun h9 => absurd h9 (by decide)⟩
          rintro X12 hX12
          rw [nn_toNat] at hX12
          have c12 : CL X12 T m N (i + 1 + 5) := by rw [hX12]; exact c11.st (by omega)
          have L12 := L11.st (b := 96) (n := n) (z := 0) (by omega)
          rw [← hX12] at L12
          clear hX12
          -- the row so far
          have S12 := st_rent (s := 92) (r := n) (z := 0) (st_sort (s := 92) (r := n) (w := 3) (z := srv T (i + 1 + 4) 3) (st_sort (s := 92) (r := n) (w := 2) (z := srv T (i + 1 + 4) 2) (st_sort (s := 92) (r := n) (w := 1) (z := srv T (i + 1 + 4) 1) (st_sort (s := 92) (r := n) (w := 0) (z := srv T (i + 1 + 4) 0) (st_deep (s := 92) (t := n) (z := nv T (i + 1 + 2)) (st_wide (s := 92) (t := n) (z := nv T (i + 1)) hS hn5) hn5) hn5 (by omega)) hn5 (by omega)) hn5 (by omega)) hn5 (by omega)) hn5
          refine c12.wd (by omega) (by omega) (fun l7 h7 X13 c13 E13 J13 => ?_) (fun h7 => ?_)
          · rw [hw.2.2.2.1] at h7
            rw [qif_y h7] at h
            have L13 := L12.s76 E13 J13
            show RY d 350 119 _ _ X13 D Q
            refine u_350_119_92 ⟨fun h9 => absurd h9 (by decide), fun _ => c13.nm (by omega) (fun l8 h8 X14 c14 v14 E14 J14 => ?_) (fun h8 => ?_)⟩
            · rw [qif_y h8] at h
              have L14 := L13.s76 E14 J14
              show RY d 350 132 _ _ X14 D Q
              refine u_350_132_92 ⟨fun _ => ⟨by omega, ?_⟩, fun h9 => absurd h9 (by decide)⟩
              rintro X15 hX15 X16 hX16
              rw [nn_toNat, v14] at hX15
              have L15 := L14.st (b := 96) (n := n) (z := nv T (i + 1 + 5 + 1)) (by omega)
              rw [← hX15] at L15
              have e0 : X15 92 0 = (n : Int) := by rw [L15.at_ (by decide), up2_na (by decide), up2_na (by decide), up2_na (by decide), up2_na (by decide), up2_na (by decide), up2_na (by decide), up2_na (by decide), up2_na (by decide)]; exact e92
              rw [e0, wr_id (by omega) (by omega)] at hX16
              have L16 := L15.st (b := 92) (n := 0) (z := (n : Int) + 1) (by omega)
              rw [← hX16] at L16
              have S16 := st_many (s := 92) (z := (n : Int) + 1) (st_rent (s := 92) (r := n) (z := nv T (i + 1 + 5 + 1)) S12 hn5)
              refine h X16 (by rw [hX16, hX15]; exact (c14.st (by omega)).st (by omega)) (St.ext (L16.stt S16) (fun k _ => ?_)) L16.hc
              exact rm_ext2 hn k
            · rw [qif_n h8] at h
              show RY d 350 132 _ _ X13 D Q
              exact u_350_132_92 ⟨fun h9 => absurd rfl h9, fun _ => bail L13 c13 h⟩
          · rw [hw.2.2.2.1] at h7
            rw [qif_n h7] at h
            show RY d 350 119 _ _ X12 D Q
            refine u_350_119_92 ⟨fun _ X16 hX16 => ?_, fun h9 => absurd rfl h9⟩
            have e0 : X12 92 0 = (n : Int) := by rw [L12.at_ (by decide), up2_na (by decide), up2_na (by decide), up2_na (by decide), up2_na (by decide), up2_na (by decide), up2_na (by decide), up2_na (by decide)]; exact e92
            rw [e0, wr_id (by omega) (by omega)] at hX16
            have L16 := L12.st (b := 92) (n := 0) (z := (n : Int) + 1) (by omega)
            rw [← hX16] at L16
            have S16 := st_many (s := 92) (z := (n : Int) + 1) S12
            refine h X16 (by rw [hX16]; exact c12.st (by omega)) (St.ext (L16.stt S16) (fun k _ => ?_)) L16.hc
            exact rm_ext hn k
        · rw [show i + 1 + 2 + 1 = i + 1 + 3 by omega] at h5 c5
          rw [hw.2.2.1] at h5
          rw [qif_n h5] at h
          show RY d 350 89 _ _ X5 D Q
          exact u_350_89_92 ⟨fun _ => bail L5 c5 h, fun h9 => absurd rfl h9⟩
      · rw [show i + 1 + 1 + 1 = i + 1 + 2 by omega] at h3 c3
        rw [qif_n h3] at h
        show RY d 350 62 _ _ X3 D Q
        exact u_350_62_92 ⟨fun h9 => absurd rfl h9, fun _ => bail L3 c3 h⟩
    · rw [hw.2.1] at h2
      rw [qif_n h2] at h
      show RY d 350 49 _ _ X2 D Q
      exact u_350_49_92 ⟨fun _ => bail L2 c2 h, fun h9 => absurd rfl h9⟩
  · rw [qif_n h1] at h
    show RY d 350 22 _ _ V1 D Q
    exact u_350_22_92 ⟨fun h9 => absurd rfl h9, fun _ => bail K1 hC1 h⟩
theorem tn_ext {n : Nat} {u w l : Int} (hn : p 4 = (n : Int)) : tnR p u w l = rup (rup (rup (rup p (51 + 3 * n) u) (52 + 3 * n) w) (53 + 3 * n) l) 4 ((n : Int) + 1) := by
  have hnn : (p 4).toNat = n := by omega
  unfold tnR
  rw [hnn, hn]
theorem tn_ext2 {n : Nat} {u w l : Int} (hn : p 4 = (n : Int)) : tnR p u w l = rup (rup (rup (rup (rup p (51 + 3 * n) u) (52 + 3 * n) w) (53 + 3 * n) (-1)) (53 + 3 * n) l) 4 ((n : Int) + 1) := by
  rw [tn_ext hn]
  congr 1
  funext k
  unfold rup
  by_cases h3 : k = 53 + 3 * n
  · rw [if_pos h3, if_pos h3]
  rw [if_neg h3, if_neg h3, if_neg h3]
theorem c_tenantLine (hC : CL V T m N i) (hS : St V 92 p) (hW : WF p) (h4 : p 4 < 5) (hK : T.2.1 i ≠ 3) (h : qOk (hTen T p (i + 1)) (cS V D T m N Q) (cF V D T m N Q)) : RY d 351 0 [vr 247, vr 92, vr 0, vr 0] [] V D Q := by
  have hw := hd_eq
  have r4 := hW.2.1
  have r3 := hW.1
  obtain ⟨n, hn⟩ : ∃ n : Nat, p 4 = (n : Int) := ⟨(p 4).toNat, by omega⟩
  have hn5 : n < 5 := by omega
  have hlt := (hC.nx hK).1
  obtain ⟨a1, a2, a3, a4, a5, a6, a7, a8, a9⟩ := id hC
  have hN := a4.1
  have e92 : V 92 6 = (n : Int) := hS.tens.trans hn
  have e3 : V 92 0 = p 3 := hS.rooms
  have bail : ∀ {e : Nat} {C X : xF}, Kp V C X → CL X T m N e → cF V D T m N Q e → Q (.inl (some (vi 0))) X D := fun hk hc hf => hf _ hc hk.hc
  unfold hTen at h
  refine u_351_0_92 ?_
  rw [a1, nn_toNat, a5, e92]
  refine ⟨by omega, fun h9 => absurd h9 hK, fun _ V1 hV1 => ?_⟩
  rw [wr_id (x := (i : Int) + 1) (by omega) (by omega), show (i : Int) + 1 = ((i + 1 : Nat) : Int) by omega] at hV1
  have hC1 : CL V1 T m N (i + 1) := by rw [hV1]; exact hC.up hlt
  have K1 : Kp V V V1 := Kp.rf.s76 (fun a ha => by rw [hV1, up2_na ha]) (fun j h5 _ => by rw [hV1, up2_ni h5])
  clear hV1
  refine hC1.wd (by omega) (by omega) (fun l1 h1 X1 c1 E1 J1 => ?_) (fun h1 => ?_)
  · rw [hw.2.2.2.2.2.1] at h1
    rw [qif_y h1] at h
    have L1 := K1.s76 E1 J1
    show RY d 351 21 _ _ X1 D Q
    refine u_351_21_92 ⟨fun h9 => absurd h9 (by decide), fun _ => c1.nm (by omega) (fun l2 h2 X2 c2 v2 E2 J2 => ?_) (fun h2 => ?_)⟩
    · rw [qif_y h2] at h
      have L2 := L1.s76 E2 J2
      show RY d 351 34 _ _ X2 D Q
      refine u_351_34_92 ⟨fun _ => ⟨by omega, ?_⟩, fun h9 => absurd h9 (by decide)⟩
      rintro X3 hX3
      rw [nn_toNat, v2] at hX3
      have c3 : CL X3 T m N (i + 1 + 1 + 1) := by rw [hX3]; exact c2.st (by omega)
      have L3 := L2.st (b := 98) (n := n) (z := nv T (i + 1 + 1)) (by omega)
      rw [← hX3] at L3
      clear hX3
      rw [show i + 1 + 1 + 1 = i + 1 + 2 by omega] at c3
      refine c3.wd (by omega) (by omega) (fun l3 h3 X4 c4 E4 J4 => ?_) (fun h3 => ?_)
      · rw [hw.2.2.2.2.2.2.1] at h3
        rw [qif_y h3] at h
        have L4 := L3.s76 E4 J4
        rw [show i + 1 + 2 + 1 = i + 1 + 3 by omega] at c4
        show RY d 351 61 _ _ X4 D Q
        refine u_351_61_92 ⟨fun h9 => absurd h9 (by decide), fun _ => c4.nm (by omega) (fun l5 h5 X5 c5 v5 E5 J5 => ?_) (fun h5 => ?_)⟩
        · rw [qif_y h5] at h
          unfold hIn at h
          have L5 := L4.s76 E5 J5
          rw [show i + 1 + 3 + 1 = i + 1 + 4 by omega] at c5
          show RY d 351 74 _ _ X5 D Q
          refine u_351_74_92 ⟨fun _ => ⟨by omega, ?_⟩, fun h9 => absurd h9 (by decide)⟩
          rintro X6 hX6
          refine ⟨by omega, ?_⟩
          rintro X7 hX7
          rw [nn_toNat, v5] at hX6
          rw [nn_toNat] at hX7
          have L6 := L5.st (b := 99) (n := n) (z := nv T (i + 1 + 3)) (by omega)
          rw [← hX6] at L6
          have L7 := L6.st (b := 100) (n := n) (z := -1) (by omega)
          rw [← hX7] at L7
          have c7 : CL X7 T m N (i + 1 + 4) := by rw [hX7, hX6]; exact (c5.st (by omega)).st (by omega)
          clear hX6 hX7
          have S7 := st_lodge (s := 92) (t := n) (z := -1) (st_wants (s := 92) (t := n) (z := nv T (i + 1 + 3)) (st_purse (s := 92) (t := n) (z := nv T (i + 1 + 1)) hS hn5) hn5) hn5
          have e6 : ∀ X8 : xF, Kp V (up2 (up2 (up2 V 98 n (nv T (i + 1 + 1))) 99 n (nv T (i + 1 + 3))) 100 n (-1)) X8 → X8 92 6 = (n : Int) ∧ X8 92 0 = p 3 ∧ St X8 92 (rup (rup (rup p (51 + 3 * n) (nv T (i + 1 + 1))) (52 + 3 * n) (nv T (i + 1 + 3))) (53 + 3 * n) (-1)) := fun X8 L8 => ⟨by rw [L8.at_ (by decide), up2_na (by decide), up2_na (by decide), up2_na (by decide)]; exact e92, by rw [L8.at_ (by decide), up2_na (by decide), up2_na (by decide), up2_na (by decide)]; exact e3, L8.stt S7⟩
          refine c7.wd (by omega) (by omega) (fun l7 h7 X8 c8 E8 J8 => ?_) (fun h7 => ?_)
          · rw [hw.2.2.2.2.2.2.2.1] at h7
            rw [qif_y h7] at h
            have L8 := L7.s76 E8 J8
            have f8 := e6 X8 L8
            show RY d 351 108 _ _ X8 D Q
            refine u_351_108_92 ⟨fun h9 => absurd h9 (by decide), fun _ => c8.nb ?_⟩
            show RY d 351 118 _ _ X8 D Q
            have hnob : ¬ (isN T (i + 1 + 4 + 1) 0 (p 3 - 1) ∧ hdr p (nv T (i + 1 + 4 + 1)) = -1) → cF V D T m N Q (i + 1 + 4 + 1) := fun hx => by rw [qif_n hx] at h; exact h
            refine u_351_118_92 ⟨fun h9 => bail L8 c8 (hnob (fun hx => by have := (isN_b hx.1).1; omega)), fun h9 => ?_⟩
            -- who has the room: the tenants so far are those of p
            have hh : hdr (rup (rup (rup p (51 + 3 * n) (nv T (i + 1 + 1))) (52 + 3 * n) (nv T (i + 1 + 3))) (53 + 3 * n) (-1)) (nv T (i + 1 + 4 + 1)) = hdr p (nv T (i + 1 + 4 + 1)) := by
              have key : ∀ (q : Rw), q 4 = p 4 → (∀ t, t < n → tL_ q t = tL_ p t) → ∀ z, hdr q z = hdr p z := by
                intro q hq4 hq z
                unfold hdr
                rw [hq4]
                have cg : ∀ k, k ≤ n → fstB (fun t => decide (tL_ q t = z)) k = fstB (fun t => decide (tL_ p t = z)) k := by
                  intro k
                  induction k with
                  | zero => intro _; rfl
                  | succ k ih =>
                    intro hk
                    unfold fstB
                    rw [ih (by omega), hq k (by omega)]
                exact cg _ (by omega)
              refine key _ (by rw [rup_n (by omega), rup_n (by omega), rup_n (by omega)]) (fun t ht => ?_) _
              unfold tL_
              rw [rup_n (by omega), rup_n (by omega), rup_n (by omega)]
            have hWq : WF (rup (rup (rup p (51 + 3 * n) (nv T (i + 1 + 1))) (52 + 3 * n) (nv T (i + 1 + 3))) (53 + 3 * n) (-1)) := by
              obtain ⟨g1, g2, g3, g4, g5, g6, g7, g8, g9, g10, g11, g12, g13, g14, g15, g16⟩ := id hW
              have o : ∀ k, (k < 51 + 3 * n ∨ 53 + 3 * n < k) → rup (rup (rup p (51 + 3 * n) (nv T (i + 1 + 1))) (52 + 3 * n) (nv T (i + 1 + 3))) (53 + 3 * n) (-1) k = p k := fun k hk => by rw [rup_n (by omega), rup_n (by omega), rup_n (by omega)]
              unfold WF
              rw [o 3 (by omega), o 4 (by omega), o 0 (by omega), o 1 (by omega), o 5 (by omega), o 6 (by omega), o 7 (by omega), o 8 (by omega), o 9 (by omega), o 10 (by omega), o 11 (by omega), o 12 (by omega), o 13 (by omega), o 14 (by omega)]
              refine ⟨g1, g2, g3, g4, g5, g6, g7, g8, g9, g10, g11, fun r hr => ?_, fun t ht => ?_, fun t u ht hu => ?_, fun r q hr hq => ?_, ?_⟩
              · have := g12 r hr
                unfold rW rD rS rR at *
                rw [o _ (by omega), o _ (by omega), o _ (by omega)]
                exact ⟨this.1, this.2.1, fun w hw => by rw [o _ (by omega)]; exact this.2.2.1 w hw, this.2.2.2⟩
              · have := g13 t ht
                unfold tP_ tW_ tL_ at *
                rw [o _ (by omega), o _ (by omega), o _ (by omega)]
                exact this
              · have := g14 t u ht hu
                unfold tL_ at *
                rw [o _ (by omega), o _ (by omega)]
                exact this
              · have := g15 r q hr hq
                unfold dO_ at *
                rw [o _ (by omega), o _ (by omega)]
                exact this
              · rcases g16 with g | g
                · exact Or.inl g
                · right
                  unfold rW rD at *
                  have x1 := o (16 + 7 * (p 5).toNat) (by omega)
                  have x2 := o (17 + 7 * (p 5).toNat) (by omega)
                  rw [x1, x2]
                  exact g
            refine c_holder_92 f8.2.2 hWq ?_
            rw [hh]
            show RY d 351 129 _ _ X8 D Q
            refine u_351_129_92 ⟨fun h10 => bail L8 c8 (hnob (fun hx => h10 hx.2)), fun h10 => ?_⟩
            rw [f8.2.1, wr_id (x := p 3 - 1) (by omega) (by omega)]
            refine c8.nm (by omega) (fun l9 h11 X9 c9 v9 E9 J9 => ?_) (fun h11 => ?_)
            · rw [qif_y ⟨h11, h10⟩] at h
              have L9 := L8.s76 E9 J9
              show RY d 351 147 _ _ X9 D Q
              refine u_351_147_92 ⟨fun _ => ⟨by omega, ?_⟩, fun h12 => absurd h12 (by decide)⟩
              rintro X10 hX10 X11 hX11
              rw [nn_toNat] at hX10
              have L10 := L9.st (b := 100) (n := n) (z := nv T (i + 1 + 4 + 1)) (by omega)
              rw [← hX10] at L10
              have e0 : X10 92 6 = (n : Int) := by rw [L10.at_ (by decide), up2_na (by decide), up2_na (by decide), up2_na (by decide), up2_na (by decide)]; exact e92
              rw [e0, wr_id (by omega) (by omega)] at hX11
              have L11 := L10.st (b := 92) (n := 6) (z := (n : Int) + 1) (by omega)
              rw [← hX11] at L11
              have S11 := st_people (s := 92) (z := (n : Int) + 1) (st_lodge (s := 92) (t := n) (z := nv T (i + 1 + 4 + 1)) S7 hn5)
              refine h X11 (by rw [hX11, hX10]; exact (c9.st (by omega)).st (by omega)) ?_ L11.hc
              rw [tn_ext2 hn]
              exact L11.stt S11
            · show RY d 351 147 _ _ X8 D Q
              exact u_351_147_92 ⟨fun h12 => absurd rfl h12, fun _ => bail L8 c8 (hnob (fun hx => h11 hx.1))⟩
          · rw [hw.2.2.2.2.2.2.2.1] at h7
            rw [qif_n h7] at h
            have f7 := e6 X7 L7
            show RY d 351 108 _ _ X7 D Q
            refine u_351_108_92 ⟨fun _ X8 hX8 => ?_, fun h9 => absurd rfl h9⟩
            rw [f7.1, wr_id (by omega) (by omega)] at hX8
            have L8 := L7.st (b := 92) (n := 6) (z := (n : Int) + 1) (by omega)
            rw [← hX8] at L8
            have S8 := st_people (s := 92) (z := (n : Int) + 1) S7
            refine h X8 (by rw [hX8]; exact c7.st (by omega)) ?_ L8.hc
            rw [tn_ext hn]
            exact L8.stt S8
        · rw [qif_n h5] at h
          show RY d 351 74 _ _ X4 D Q
          exact u_351_74_92 ⟨fun h9 => absurd rfl h9, fun _ => bail L4 c4 h⟩
      · rw [hw.2.2.2.2.2.2.1] at h3
        rw [qif_n h3] at h
        show RY d 351 61 _ _ X3 D Q
        exact u_351_61_92 ⟨fun _ => bail L3 c3 h, fun h9 => absurd rfl h9⟩
    · rw [qif_n h2] at h
      show RY d 351 34 _ _ X1 D Q
      exact u_351_34_92 ⟨fun h9 => absurd rfl h9, fun _ => bail L1 c1 h⟩
  · rw [hw.2.2.2.2.2.1] at h1
    rw [qif_n h1] at h
    show RY d 351 21 _ _ V1 D Q
    exact u_351_21_92 ⟨fun _ => bail K1 hC1 h, fun h9 => absurd rfl h9⟩
end CHOUSE
