section WIN2
variable {k : Nat} {W C : ByteArray}
set_option maxRecDepth 100000 in
set_option maxHeartbeats 4000000 in
theorem xLc_instr (hp : ∀ i b, W.data.toList[i]? = some b → C.data.toList[i + k]? = some b) (hk : k % 4 = 0) (hkC : k ≤ C.size) (pc : Nat) : xLc k W C (Decoder.instr pc) := by
  unfold Decoder.instr
  refine xLc_bind (xLc_u1 hp) fun x => ?_
  split
  all_goals first
    | exact xLc_pure _
    | exact xLc_throw _
    | exact xLc_bind (xLc_u1 hp) fun _ => xLc_pure _
    | exact xLc_bind (xLc_u2 hp) fun _ => xLc_pure _
    | exact xLc_bind (xLc_s1 hp) fun _ => xLc_pure _
    | exact xLc_bind (xLc_s2 hp) fun _ => xLc_pure _
    | exact xLc_bind (xLc_s4 hp) fun _ => xLc_pure _
    | exact xLc_bind (xLc_u1 hp) fun _ => xLc_bind (xLc_s1 hp) fun _ => xLc_pure _
    | exact xLc_tsw hp hk hkC pc
    | exact xLc_lsw hp hk hkC pc
    | exact xLc_iif hp pc
    | exact xLc_idy hp pc
    | exact xLc_mna hp pc
    | exact xLc_new hp pc
    | exact xLc_wide hp pc
end WIN2
/-- rows checked by windows of the bytes -/
def xDecW : Nat → List UInt8 → List xI → Bool
  | _, _, [] => true
  | base, L, e :: r => match Nat.ble base (e.1 - e.1 % 4) with
    | true => (match (Decoder.instr e.1).runAt ⟨⟨(L.drop (e.1 - e.1 % 4 - base)).take (e.2.2.1 + 4)⟩⟩ (e.1 % 4) with
      | .ok (i, q) => decide (i = e.2.1) && Nat.beq q (e.1 % 4 + e.2.2.1)
      | .error _ => false) && xDecW (e.1 - e.1 % 4) (L.drop (e.1 - e.1 % 4 - base)) r
    | false => false
theorem xDecW_of {code : ByteArray} : ∀ {l : List xI} {base : Nat}, base ≤ code.size → xDecW base (code.data.toList.drop base) l = true → xDec code l := by
  intro l
  induction l with
  | nil => intro base _ _; trivial
  | cons e l ih =>
    intro base hb h
    unfold xDecW at h
    split at h
    · rename_i h1
      have h1 := Nat.le_of_ble_eq_true h1
      rw [List.drop_drop, show base + (e.1 - e.1 % 4 - base) = e.1 - e.1 % 4 by omega] at h
      simp only [Bool.and_eq_true] at h
      obtain ⟨h2, h3⟩ := h
      have hk : (e.1 - e.1 % 4) % 4 = 0 := by omega
      split at h2
      · rename_i i q hr
        simp only [Bool.and_eq_true, decide_eq_true_eq] at h2
        have hq := Nat.eq_of_beq_eq_true h2.2
        subst hq
        have hp : ∀ i b, ((code.data.toList.drop (e.1 - e.1 % 4)).take (e.2.2.1 + 4))[i]? = some b → code.data.toList[i + (e.1 - e.1 % 4)]? = some b := by
          intro i b hib
          rw [List.getElem?_take] at hib
          split at hib
          · rw [List.getElem?_drop] at hib
            rw [Nat.add_comm]; exact hib
          · cases hib
        have hkC : e.1 - e.1 % 4 ≤ code.size := by
          rcases Nat.lt_or_ge code.size (e.1 - e.1 % 4) with h9 | h9
          · exfalso
            have h10 : code.data.toList.drop (e.1 - e.1 % 4) = [] := List.drop_eq_nil_iff.mpr (by rw [Array.length_toList]; exact Nat.le_of_lt h9)
            rw [h10] at hr
            have h11 : (Decoder.instr e.1).runAt ⟨⟨([] : List UInt8).take (e.2.2.1 + 4)⟩⟩ (e.1 % 4) = .error (HasTruncated.truncated (e.1 % 4)) := by
              rw [List.take_nil]
              rfl
            rw [h11] at hr
            cases hr
          · exact h9
        have hL := xLc_instr (W := ⟨⟨(code.data.toList.drop (e.1 - e.1 % 4)).take (e.2.2.1 + 4)⟩⟩) (C := code) (k := e.1 - e.1 % 4) hp hk hkC e.1 _ _ _ hr
        refine ⟨?_, ih hkC h3⟩
        have e4 : e.1 % 4 + (e.1 - e.1 % 4) = e.1 := by omega
        rw [e4] at hL
        have e5 : decode code e.1 = (match (Decoder.instr e.1).runAt code e.1 with | .ok (a, q) => .ok (a, q - e.1) | .error e => .error e) := by
          show (bind ((Decoder.instr e.1).runAt code e.1) fun q => _) = _
          cases (Decoder.instr e.1).runAt code e.1 <;> rfl
        rw [e5, hL, h2.1]
        show Except.ok (_, _) = Except.ok (_, _)
        rw [show e.1 % 4 + e.2.2.1 + (e.1 - e.1 % 4) - e.1 = e.2.2.1 by omega]
      · cases h2
    · cases h
