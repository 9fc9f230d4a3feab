/-! ===== THE TAPE; THE IMAGE; WHAT IS TAKEN BACK ===== -/
/-- a byte of four -/
def byt (x : Int) (j : Nat) : Int := xand (xshr x (24 - 8 * ((j % 4 : Nat) : Int))) 255
theorem ushr_shr (x : Int) {s : Int} (hs : s = 24 ∨ s = 16 ∨ s = 8 ∨ s = 0) : xand (xushr x s) 255 = xand (xshr x s) 255 ∧ 0 ≤ xand (xshr x s) 255 ∧ xand (xshr x s) 255 ≤ 255 := by
  unfold xand xushr xshr
  generalize Int32.ofInt x = w
  have key : ∀ (k : Nat), k = 24 ∨ k = 16 ∨ k = 8 ∨ k = 0 → ((w.toUInt32 >>> (UInt32.ofNat k)).toInt32 &&& 255).toInt = ((w >>> (Int32.ofNat k)) &&& 255).toInt ∧ 0 ≤ ((w >>> (Int32.ofNat k)) &&& 255).toInt ∧ ((w >>> (Int32.ofNat k)) &&& 255).toInt ≤ 255 := by
    intro k hk
    have h1 : ∀ u : Int32, u &&& 255 = Int32.ofBitVec (u.toBitVec &&& 255#32) := fun u => rfl
    have h2 : ((w.toUInt32 >>> (UInt32.ofNat k)).toInt32).toBitVec &&& 255#32 = (w >>> (Int32.ofNat k)).toBitVec &&& 255#32 := by
      have e1 : ((w.toUInt32 >>> (UInt32.ofNat k)).toInt32).toBitVec = w.toBitVec >>> k := by
        rcases hk with h | h | h | h <;> subst h <;> rfl
      have e2 : (w >>> (Int32.ofNat k)).toBitVec = w.toBitVec.sshiftRight k := by
        rcases hk with h | h | h | h <;> subst h <;> rfl
      rw [e1, e2]
      apply BitVec.eq_of_getLsbD_eq
      intro i hi
      rw [BitVec.getLsbD_and, BitVec.getLsbD_and, BitVec.getLsbD_ushiftRight, BitVec.getLsbD_sshiftRight]
      by_cases h8 : i < 8
      · have : k + i < 32 := by omega
        have h32 : ¬ 32 ≤ i := by omega
        simp [this, h32]
      · have : BitVec.getLsbD (255#32) i = false := by
          have hall : ∀ i : Fin 32, 8 ≤ i.1 → BitVec.getLsbD (255#32) i.1 = false := by decide
          exact hall ⟨i, hi⟩ (by show 8 ≤ i; omega)
        rw [this]
        simp
    have h3 : ∀ u : BitVec 32, 0 ≤ (Int32.ofBitVec (u &&& 255#32)).toInt ∧ (Int32.ofBitVec (u &&& 255#32)).toInt ≤ 255 := by
      intro u
      show 0 ≤ (u &&& 255#32).toInt ∧ (u &&& 255#32).toInt ≤ 255
      have hle : (u &&& 255#32).toNat ≤ 255 := by
        rw [BitVec.toNat_and]
        exact Nat.and_le_right
      rw [BitVec.toInt_eq_toNat_of_lt (by omega)]
      omega
    rw [h1, h1, h2]
    exact ⟨rfl, h3 _⟩
  rcases hs with h | h | h | h <;> subst h
  · rw [show Int32.ofInt 255 = 255 from rfl, show Int32.ofInt 24 &&& 31 = Int32.ofNat 24 from by decide, show (Int32.ofInt 24).toUInt32 &&& Int32.toUInt32 31 = UInt32.ofNat 24 from by decide, Int32.ofInt_toInt, Int32.ofInt_toInt]
    exact key 24 (by omega)
  · rw [show Int32.ofInt 255 = 255 from rfl, show Int32.ofInt 16 &&& 31 = Int32.ofNat 16 from by decide, show (Int32.ofInt 16).toUInt32 &&& Int32.toUInt32 31 = UInt32.ofNat 16 from by decide, Int32.ofInt_toInt, Int32.ofInt_toInt]
    exact key 16 (by omega)
  · rw [show Int32.ofInt 255 = 255 from rfl, show Int32.ofInt 8 &&& 31 = Int32.ofNat 8 from by decide, show (Int32.ofInt 8).toUInt32 &&& Int32.toUInt32 31 = UInt32.ofNat 8 from by decide, Int32.ofInt_toInt, Int32.ofInt_toInt]
    exact key 8 (by omega)
  · rw [show Int32.ofInt 255 = 255 from rfl, show Int32.ofInt 0 &&& 31 = Int32.ofNat 0 from by decide, show (Int32.ofInt 0).toUInt32 &&& Int32.toUInt32 31 = UInt32.ofNat 0 from by decide, Int32.ofInt_toInt, Int32.ofInt_toInt]
    exact key 0 (by omega)
theorem byt_b (x : Int) (j : Nat) : 0 ≤ byt x j ∧ byt x j ≤ 255 := (ushr_shr x (s := 24 - 8 * ((j % 4 : Nat) : Int)) (by omega)).2
def fed (f : Nat → Int) (n m : Nat) (B : Nat → Int) (k : Nat) : Int := if n ≤ k ∧ k < n + m then B (k - n) else f k
theorem fed_up {f : Nat → Int} {n m : Nat} {B : Nat → Int} {V : xF} {a : Nat} (h : ∀ k, V a k = fed f n m B k) (k : Nat) : up2 V a (n + m) (B m) a k = fed f n (m + 1) B k := by
  rw [up2_a]
  unfold fed at h ⊢
  by_cases e : k = n + m
  · subst e
    rw [if_pos rfl, if_pos (by omega), show n + m - n = m by omega]
  · rw [if_neg e, h k]
    by_cases h1 : n ≤ k ∧ k < n + m
    · rw [if_pos h1, if_pos (by omega)]
    · rw [if_neg h1, if_neg (by omega)]
def arg5 (a b c e f : Int) (j : Nat) : Int := if j < 4 then a else if j < 8 then b else if j < 12 then c else if j < 16 then e else f
section TAPE
variable {d : Nat} {V : xF} {D : yD} {Q : xRes → xF → yD → Prop} {p : Rw}
/-- so much of it is fed -/
def FedC (V V' : xF) (n m : Nat) (B : Nat → Int) : Prop := V' 76 1 = ((n + m : Nat) : Int) ∧ (∀ k, V' 77 k = fed (V 77) n m B k) ∧ (∀ a, a ≠ 76 → a ≠ 77 → V' a = V a) ∧ ∀ j, j ≠ 1 → V' 76 j = V 76 j
theorem c_put {V0 : xF} {n m : Nat} {x : Int} {B : Nat → Int} (hF : FedC V0 V n m B) (hm : m % 4 = 0) (hn : n + m + 4 ≤ 400) (hB : ∀ j, m ≤ j → j < m + 4 → B j = byt x j) (h : ∀ V', FedC V0 V' n (m + 4) B → Q (.inl none) V' D) : RY d 122 0 [vr 76, vi x, vr 0] [] V D Q := by
  refine u_122_0 ?_
  have main : ∀ (c i : Nat) (V1 : xF), i + c = 4 → FedC V0 V1 n (m + i) B → RY d 122 3 [vr 76, vi x, vi (24 - 8 * (i : Int))] [] V1 D Q := by
    intro c
    induction c with
    | zero =>
      intro i V1 hi hF
      have : i = 4 := by omega
      subst this
      exact u_122_3 ⟨fun _ => h V1 hF, fun h5 => by omega⟩
    | succ c ih =>
      intro i V1 hi hF
      obtain ⟨f1, f2, f3, f4⟩ := hF
      have hb := byt_b x i
      refine u_122_3 ⟨fun h5 => by omega, fun _ => ⟨fun h5 => by omega, fun _ => ⟨by omega, ?_⟩⟩⟩
      rintro V2 rfl V3 rfl
      rw [up2_na (by decide), f1, nn_toNat, wr_id (x := 24 - 8 * (i : Int) + (-8)) (by omega) (by omega), wr_id (by omega) (by omega)]
      have hBi : xand (xshr x (24 - 8 * (i : Int))) 255 = B (m + i) := by
        rw [hB (m + i) (by omega) (by omega)]
        unfold byt
        rw [show (m + i) % 4 = i by omega]
      rw [show 24 - 8 * (i : Int) + (-8) = 24 - 8 * (((i + 1 : Nat)) : Int) by omega, hBi]
      refine ih (i + 1) _ (by omega) ⟨?_, ?_, ?_, ?_⟩
      · rw [up2_at]; omega
      · intro k
        rw [up2_na (by decide), show n + (m + i) = n + (m + i) from rfl]
        exact fed_up f2 k
      · intro a h1 h2
        rw [up2_na h1, up2_na h2]
        exact f3 a h1 h2
      · intro j hj
        rw [up2_ni hj, up2_na (by decide)]
        exact f4 j hj
  exact main 4 0 V (by omega) hF
theorem ca_feed {a b c e f : Int} {n : Nat} (hn : V 76 1 = (n : Int)) (hn4 : n ≤ 400)
    (h1 : n + 20 ≤ 400 → ∀ V', FedC V V' n 20 (fun j => byt (arg5 a b c e f j) j) → Q (.inl (some (vi (((n + 20 : Nat)) : Int)))) V' D) (h2 : 400 < n + 20 → Q (.inl (some (vi (-1)))) V D) :
    RY d 2 0 [vr 70, vi a, vi b, vi c, vi e, vi f] [] V D Q := by
  have ey : yr_121 V D = if 400 < n + 20 then 0 else 1 := by
    unfold yr_121
    rw [hn, wr_id (by omega) (by omega)]
    by_cases h : 400 < n + 20
    · rw [if_pos h, if_pos (by omega)]
    · rw [if_neg h, if_neg (by omega)]
  refine u_2_0 ?_
  rw [ey]
  by_cases h : 400 < n + 20
  · rw [if_pos h]
    exact ⟨fun h5 => absurd rfl h5, fun _ => h2 h⟩
  · rw [if_neg h]
    refine ⟨fun _ => ?_, fun h5 => absurd h5 (by decide)⟩
    obtain ⟨B, hB⟩ : ∃ B : Nat → Int, B = fun j => byt (arg5 a b c e f j) j := ⟨_, rfl⟩
    rw [← hB] at h1
    have hBj : ∀ j, B j = byt (arg5 a b c e f j) j := fun j => by rw [hB]
    have F0 : FedC V V n 0 B := ⟨by rw [hn]; omega, fun k => by unfold fed; rw [if_neg (by omega)], fun _ _ _ => rfl, fun _ _ => rfl⟩
    have hA : ∀ (x : Int) (i : Nat), (∀ j, 4 * i ≤ j → j < 4 * i + 4 → arg5 a b c e f j = x) → ∀ j, 4 * i ≤ j → j < 4 * i + 4 → B j = byt x j := fun x i hx j h1 h2 => by rw [hBj, hx j h1 h2]
    refine c_put (m := 0) F0 (by omega) (by omega) (hA a 0 (fun j h1 h2 => by unfold arg5; rw [if_pos (by omega)])) (fun V1 F1 => u_2_20 ?_)
    refine c_put (m := 4) F1 (by omega) (by omega) (hA b 1 (fun j h1 h2 => by unfold arg5; rw [if_neg (by omega), if_pos (by omega)])) (fun V2 F2 => u_2_28 ?_)
    refine c_put (m := 8) F2 (by omega) (by omega) (hA c 2 (fun j h1 h2 => by unfold arg5; rw [if_neg (by omega), if_neg (by omega), if_pos (by omega)])) (fun V3 F3 => u_2_36 ?_)
    refine c_put (m := 12) F3 (by omega) (by omega) (hA e 3 (fun j h1 h2 => by unfold arg5; rw [if_neg (by omega), if_neg (by omega), if_neg (by omega), if_pos (by omega)])) (fun V4 F4 => u_2_45 ?_)
    refine c_put (m := 16) F4 (by omega) (by omega) (hA f 4 (fun j h1 h2 => by unfold arg5; rw [if_neg (by omega), if_neg (by omega), if_neg (by omega), if_neg (by omega)])) (fun V5 F5 => u_2_54 ?_)
    rw [F5.1]
    exact h1 (by omega) V5 F5
/-- and of the model's -/
def FedM (V V' : xF) (n m : Nat) (B : Nat → Int) : Prop := V' 405 8 = ((n + m : Nat) : Int) ∧ (∀ k, V' 410 k = fed (V 410) n m B k) ∧ (∀ a, a ≠ 405 → a ≠ 410 → V' a = V a) ∧ V' 405 3 = V 405 3 ∧ V' 405 6 = V 405 6 ∧ V' 405 12 = V 405 12
theorem ma_feed {a b c e f : Int} {n : Nat} (hn : V 405 8 = (n : Int)) (hn4 : n ≤ 400)
    (h1 : n + 20 ≤ 400 → ∀ V', FedM V V' n 20 (fun j => byt (arg5 a b c e f j) j) → Q (.inl (some (vi (((n + 20 : Nat)) : Int)))) V' D) (h2 : 400 < n + 20 → ∀ V', Cor V V' → Q (.inl (some (vi (-1)))) V' D) :
    RY d 3 0 [vr 405, vi a, vi b, vi c, vi e, vi f, vr 0, vr 0] [] V D Q := by
  refine u_3_0 ?_
  rintro V1 hV1
  have e8 : V1 405 8 = (n : Int) := by rw [hV1, up2_ni (by decide)]; exact hn
  rw [e8, wr_id (by omega) (by omega)]
  refine ⟨fun h5 => ?_, fun h5 => h2 (by omega) V1 (by rw [hV1]; exact v405.2.2)⟩
  obtain ⟨B, hB⟩ : ∃ B : Nat → Int, B = fun j => byt (arg5 a b c e f j) j := ⟨_, rfl⟩
  rw [← hB] at h1
  have F0 : FedM V V1 n 0 B := by
    subst hV1
    exact ⟨by rw [e8]; omega, fun k => by unfold fed; rw [if_neg (by omega), up2_na (by decide)], fun a h1 h2 => up2_na h1, up2_ni (by decide), up2_ni (by decide), up2_ni (by decide)⟩
  clear hV1 e8
  have main : ∀ (k m : Nat) (V2 : xF) (v7 : xV), m + k = 20 → FedM V V2 n m B → RY d 3 23 [vr 405, vi a, vi b, vi c, vi e, vi f, vi (m : Int), v7] [] V2 D Q := by
    intro k
    induction k with
    | zero =>
      intro m V2 v7 hm hF
      have : m = 20 := by omega
      subst this
      refine u_3_23 ⟨fun _ => ?_, fun h5 => by omega⟩
      rw [hF.1]
      exact h1 (by omega) V2 hF
    | succ k ih =>
      intro m V2 v7 hm hF
      obtain ⟨f1, f2, f3, f4, f5, f6⟩ := hF
      have et : (m : Int).tmod 4 = ((m % 4 : Nat) : Int) := by rw [tmod_nn (by omega)]; omega
      have ew : wr (24 - wr (8 * ((m : Int).tmod 4))) = 24 - 8 * ((m % 4 : Nat) : Int) := by
        rw [et, wr_id (x := 8 * ((m % 4 : Nat) : Int)) (by omega) (by omega), wr_id (by omega) (by omega)]
      have stp : ∀ (x : Int) (v : xV), arg5 a b c e f m = x → ((0 : Int) ≤ V2 405 8 ∧ V2 405 8 < (400 : Int)) ∧ (∀ V1 : xF, V1 = up2 V2 410 ((V2 405 8).toNat) (xand (xushr x (24 - 8 * ((m % 4 : Nat) : Int))) 255) → ∀ V3 : xF, V3 = up2 V1 405 8 (wr ((V1 405 8) + 1)) → RY d 3 23 [vr 405, vi a, vi b, vi c, vi e, vi f, vi (((m + 1 : Nat)) : Int), v] [] V3 D Q) := by
        intro x v hx
        refine ⟨by omega, ?_⟩
        rintro V3 rfl V4 rfl
        rw [up2_na (by decide), f1, nn_toNat, (ushr_shr x (by omega)).1, wr_id (by omega) (by omega)]
        have hBm : xand (xshr x (24 - 8 * ((m % 4 : Nat) : Int))) 255 = B m := by rw [hB]; dsimp only; rw [hx]; rfl
        rw [hBm]
        refine ih (m + 1) _ v (by omega) ⟨by rw [up2_at]; omega, fun k => ?_, fun a h1 h2 => ?_, ?_, ?_, ?_⟩
        · rw [up2_na (by decide)]; exact fed_up f2 k
        · rw [up2_na h1, up2_na h2]; exact f3 a h1 h2
        · rw [up2_ni (by decide), up2_na (by decide)]; exact f4
        · rw [up2_ni (by decide), up2_na (by decide)]; exact f5
        · rw [up2_ni (by decide), up2_na (by decide)]; exact f6
      refine u_3_23 ⟨fun h6 => by omega, fun _ => ?_⟩
      rw [ew, wr_id (x := (m : Int) + 1) (by omega) (by omega), show (m : Int) + 1 = (((m + 1 : Nat)) : Int) by omega]
      refine ⟨fun h6 => ⟨fun h7 => ⟨fun h8 => ⟨fun h9 => ?_, fun h9 => ?_⟩, fun h8 => ?_⟩, fun h7 => ?_⟩, fun h6 => ?_⟩
      · exact stp f _ (by unfold arg5; rw [if_neg (by omega), if_neg (by omega), if_neg (by omega), if_neg (by omega)])
      · exact stp e _ (by unfold arg5; rw [if_neg (by omega), if_neg (by omega), if_neg (by omega), if_pos (by omega)])
      · exact stp c _ (by unfold arg5; rw [if_neg (by omega), if_neg (by omega), if_pos (by omega)])
      · exact stp b _ (by unfold arg5; rw [if_neg (by omega), if_pos (by omega)])
      · exact stp a _ (by unfold arg5; rw [if_pos (by omega)])
  exact main 20 0 V1 _ (by omega) F0
/-- IMAGE -/
theorem ca_image (hl : D.2.1 81 ≠ 0) (h : ∀ V1, Cpd 103 81 cpos V V1 → Q (.inl none) (up2 V1 70 5 1) (D.1, up1 D.2.1 103 (D.2.1 81), D.2.2)) : RY d 105 0 [vr 70] [] V D Q := by
  refine u_105_0 (c_copy StA_103 StA_81 (by omega) hl (fun V1 hC => u_105_11 ?_))
  rintro V2 rfl
  exact h V1 hC
theorem ma_image (h : ∀ V', V' 405 3 = 1 → (∀ j, j ≠ 0 → j ≠ 3 → V' 405 j = V 405 j) → Fr [405, 407] V V' → (∀ k, k < 731 → V' 407 k = V 406 k) → Q (.inl none) V' D) : RY d 106 0 [vr 405, vr 0] [] V D Q := by
  refine u_106_0 ?_
  rintro V1 hV1
  have main : ∀ (c k : Nat) (V2 : xF), k + c = 731 → V2 405 = V1 405 → Fr [405, 407] V V2 → (∀ i, i < k → V2 407 i = V 406 i) → RY d 106 7 [vr 405, vi (k : Int)] [] V2 D Q := by
    intro c
    induction c with
    | zero =>
      intro k V2 hk e5 F h1
      refine u_106_7 ⟨fun _ => ?_, fun h5 => by omega⟩
      rintro V3 rfl
      refine h _ (up2_at _ _ _ _) (fun j h0 h3 => ?_) (F.tr (Fr.up (by decide))) (fun i hi => ?_)
      · rw [up2_ni h3, e5, hV1, up2_ni h0]
      · rw [up2_na (by decide)]; exact h1 i (by omega)
    | succ c ih =>
      intro k V2 hk e5 F h1
      refine u_106_7 ⟨fun h5 => by omega, fun _ => ⟨by omega, by omega, ?_⟩⟩
      rintro V3 rfl
      rw [nn_toNat, wr_id (by omega) (by omega), F.at_ 406 (by decide)]
      refine ih (k + 1) _ (by omega) (by rw [up2_na (by decide)]; exact e5) (F.tr (Fr.up (by decide))) (fun i hi => ?_)
      rw [up2_a]
      by_cases e : i = k
      · subst e; rw [if_pos rfl]
      · rw [if_neg e]; exact h1 i (by omega)
  exact main 731 0 V1 (by omega) rfl (by rw [hV1]; exact Fr.up (by decide)) (fun i hi => by omega)
/-- BACK -/
theorem ca_back (hl : D.2.1 103 ≠ 0) (h0 : V 70 5 = 0 → Q (.inl (some (vi 0))) V D) (h1 : V 70 5 ≠ 0 → ∀ V1, Cpd 81 103 cpos V V1 → Q (.inl (some (vi 1))) (up2 V1 70 8 0) (D.1, up1 D.2.1 81 (D.2.1 103), D.2.2)) : RY d 107 0 [vr 70] [] V D Q := by
  refine u_107_0 ⟨fun h5 => c_copy StA_81 StA_103 (by omega) hl (fun V1 hC => u_107_20 ?_), h0⟩
  rintro V2 rfl
  exact h1 h5 V1 hC
theorem ma_back (h0 : V 405 3 = 0 → ∀ V', Cor V V' → Q (.inl (some (vi 0))) V' D)
    (h1 : V 405 3 ≠ 0 → ∀ V', V' 405 6 = 0 → (∀ j, j ≠ 0 → j ≠ 6 → V' 405 j = V 405 j) → Fr [405, 406] V V' → (∀ k, k < 731 → V' 406 k = V 407 k) → Q (.inl (some (vi 1))) V' D) : RY d 108 0 [vr 405, vr 0] [] V D Q := by
  refine u_108_0 ?_
  rintro V1 hV1
  have e3 : V1 405 3 = V 405 3 := by rw [hV1, up2_ni (by decide)]
  rw [e3]
  refine ⟨fun h5 => ?_, fun h5 => h0 h5 V1 (by rw [hV1]; exact v405.2.2)⟩
  have main : ∀ (c k : Nat) (V2 : xF), k + c = 731 → V2 405 = V1 405 → Fr [405, 406] V V2 → (∀ i, i < k → V2 406 i = V 407 i) → RY d 108 16 [vr 405, vi (k : Int)] [] V2 D Q := by
    intro c
    induction c with
    | zero =>
      intro k V2 hk e5 F h2
      refine u_108_16 ⟨fun _ => ?_, fun h5 => by omega⟩
      rintro V3 rfl
      refine h1 h5 _ (up2_at _ _ _ _) (fun j h0 h3 => ?_) (F.tr (Fr.up (by decide))) (fun i hi => ?_)
      · rw [up2_ni h3, e5, hV1, up2_ni h0]
      · rw [up2_na (by decide)]; exact h2 i (by omega)
    | succ c ih =>
      intro k V2 hk e5 F h2
      refine u_108_16 ⟨fun h5 => by omega, fun _ => ⟨by omega, by omega, ?_⟩⟩
      rintro V3 rfl
      rw [nn_toNat, wr_id (by omega) (by omega), F.at_ 407 (by decide)]
      refine ih (k + 1) _ (by omega) (by rw [up2_na (by decide)]; exact e5) (F.tr (Fr.up (by decide))) (fun i hi => ?_)
      rw [up2_a]
      by_cases e : i = k
      · subst e; rw [if_pos rfl]
      · rw [if_neg e]; exact h2 i (by omega)
  exact main 731 0 V1 (by omega) rfl (by rw [hV1]; exact Fr.up (by decide)) (fun i hi => by omega)
/-- UNDO -/
theorem ca_undo {nx a : Nat} (h7 : V 70 7 = (nx : Int)) (hnx : nx < 12) (h8 : V 70 8 = (a : Int)) (ha : a ≤ 12) (hl : 0 < a → D.2.1 (115 + 11 * ((nx + 11) % 12)) ≠ 0) (h0 : a = 0 → Q (.inl (some (vi 0))) V D)
    (h1 : 0 < a → ∀ V1, Cpd 81 (115 + 11 * ((nx + 11) % 12)) cpos (up2 (up2 V 70 8 ((a : Int) - 1)) 70 7 (((nx + 11) % 12 : Nat) : Int)) V1 → Q (.inl (some (vi 1))) V1 (D.1, up1 D.2.1 81 (D.2.1 (115 + 11 * ((nx + 11) % 12))), D.2.2)) : RY d 103 0 [vr 70] [] V D Q := by
  refine u_103_0 ⟨fun h5 => ?_, fun h5 => h0 (by omega)⟩
  rw [h8] at h5 ⊢
  rintro V1 rfl
  rw [wr_id (x := (a : Int) - 1) (by omega) (by omega), up2_ni (by decide), h7]
  have h1 := h1 (by omega)
  have hl := hl (by omega)
  have m12 : (nx + 11) % 12 < 12 := Nat.mod_lt _ (by omega)
  refine ⟨fun h6 => ?_, fun h6 => ?_⟩
  · rintro V2 rfl
    rw [wr_id (by omega) (by omega)]
    have e : ((nx : Int) - 1) = (((nx + 11) % 12 : Nat) : Int) := by omega
    rw [e, up2_at, nn_toNat, yR114 m12]
    refine ⟨K114, ⟨by omega, by omega⟩, by omega, ?_⟩
    rintro q rfl
    exact c_copy StA_81 (StA_past m12) (by omega) hl (fun V1 hC => u_103_57 (h1 V1 hC))
  · rintro V2 rfl
    have e : (11 : Int) = (((nx + 11) % 12 : Nat) : Int) := by omega
    rw [e, up2_at, nn_toNat, yR114 m12]
    refine ⟨K114, ⟨by omega, by omega⟩, by omega, ?_⟩
    rintro q rfl
    exact c_copy StA_81 (StA_past m12) (by omega) hl (fun V1 hC => u_103_57 (h1 V1 hC))
theorem ma_undo {a : Nat} (h6 : V 405 6 = (a : Int)) (ha : a ≤ 12) (h0 : a = 0 → ∀ V', Cor V V' → Q (.inl (some (vi 0))) V' D)
    (h1 : 0 < a → ∀ V', V' 405 6 = (a : Int) - 1 → (∀ j, j ≠ 0 → j ≠ 6 → V' 405 j = V 405 j) → Fr [405, 406] V V' → (∀ k, k < 331 → V' 406 k = V 409 (331 * (a - 1) + k)) → (∀ k, 331 ≤ k → V' 406 k = V 406 k) → Q (.inl (some (vi 1))) V' D) : RY d 104 0 [vr 405, vr 0] [] V D Q := by
  refine u_104_0 ?_
  rintro V1 hV1
  have e6 : V1 405 6 = (a : Int) := by rw [hV1, up2_ni (by decide)]; exact h6
  rw [e6]
  refine ⟨fun h5 => ?_, fun h5 => h0 (by omega) V1 (by rw [hV1]; exact v405.2.2)⟩
  rintro V2 hV2
  rw [wr_id (by omega) (by omega)] at hV2
  have main : ∀ (c k : Nat) (V3 : xF), k + c = 331 → V3 405 = V2 405 → Fr [405, 406] V V3 → (∀ i, i < k → V3 406 i = V 409 (331 * (a - 1) + i)) → (∀ i, k ≤ i → V3 406 i = V 406 i) → RY d 104 26 [vr 405, vi (k : Int)] [] V3 D Q := by
    intro c
    induction c with
    | zero =>
      intro k V3 hk e5 F h2 h3
      refine u_104_26 ⟨fun _ => ?_, fun h5 => by omega⟩
      refine h1 (by omega) _ (by rw [e5, hV2, up2_at]) (fun j j0 j6 => by rw [e5, hV2, up2_ni j6, hV1, up2_ni j0]) F (fun i hi => h2 i (by omega)) (fun i hi => h3 i (by omega))
    | succ c ih =>
      intro k V3 hk e5 F h2 h3
      have e66 : V3 405 6 = (a : Int) - 1 := by rw [e5, hV2, up2_at]
      refine u_104_26 ⟨fun h5 => by omega, fun _ => ?_⟩
      rw [e66, nn_toNat, wr_id (x := 331 * ((a : Int) - 1)) (by omega) (by omega), wr_id (x := 331 * ((a : Int) - 1) + (k : Int)) (by omega) (by omega), wr_id (x := (k : Int) + 1) (by omega) (by omega), show (331 * ((a : Int) - 1) + (k : Int)).toNat = 331 * (a - 1) + k by omega, F.at_ 409 (by decide)]
      refine ⟨by omega, by omega, ?_⟩
      rintro V4 rfl
      refine ih (k + 1) _ (by omega) (by rw [up2_na (by decide)]; exact e5) (F.tr (Fr.up (by decide))) (fun i hi => ?_) (fun i hi => ?_)
      · rw [up2_a]
        by_cases e : i = k
        · subst e; rw [if_pos rfl]
        · rw [if_neg e]; exact h2 i (by omega)
      · rw [up2_ni (by omega)]; exact h3 i (by omega)
  exact main 331 0 V2 (by omega) rfl (by rw [hV2, hV1]; exact (Fr.up (by decide)).tr (Fr.up (by decide))) (fun i hi => by omega) (fun i _ => by rw [hV2, up2_na (by decide), hV1, up2_na (by decide)])
end TAPE
