/-! ===== DECODING BY WINDOWS: the bytes are gone through once ===== -/
def xLc {α : Type} (k : Nat) (W C : ByteArray) (r : Reader DecodeError α) : Prop := ∀ p a p', r.runAt W p = .ok (a, p') → r.runAt C (p + k) = .ok (a, p' + k)
section WIN
variable {k : Nat} {W C : ByteArray}
theorem xLc_pure {α : Type} (a : α) : xLc k W C (pure a) := by
  intro p b p' h
  cases h
  rfl
theorem xLc_throw {α : Type} (e : DecodeError) : xLc (α := α) k W C (throw e) := by
  intro p b p' h
  cases h
theorem xRun_bind {α β : Type} {r : Reader DecodeError α} {f : α → Reader DecodeError β} (B : ByteArray) (p : Nat) : (r >>= f).runAt B p = (match r.runAt B p with | .ok (a, q) => (f a).runAt B q | .error e => .error e) := by
  show ((ReaderT.run (r >>= f) B).run p) = _
  simp only [ReaderT.run_bind, StateT.run_bind]
  show (bind ((ReaderT.run r B).run p) fun q => _) = _
  unfold Reader.runAt
  cases (ReaderT.run r B).run p <;> rfl
theorem xRun_bytes (n : Nat) (B : ByteArray) (p : Nat) : (Reader.bytes n : Reader DecodeError ByteArray).runAt B p = (if p + n ≤ B.size then .ok (B.extract p (p + n), p + n) else .error (HasTruncated.truncated B.size)) := by
  show ((if p + n ≤ B.size then (do set (p + n); pure (B.extract p (p + n)) : Reader DecodeError ByteArray) else throw (HasTruncated.truncated B.size)).runAt B p) = _
  by_cases hq : p + n ≤ B.size
  · rw [if_pos hq, if_pos hq]
    rfl
  · rw [if_neg hq, if_neg hq]
    rfl
theorem xLc_bind {α β : Type} {r : Reader DecodeError α} {f : α → Reader DecodeError β} (h1 : xLc k W C r) (h2 : ∀ a, xLc k W C (f a)) : xLc k W C (r >>= f) := by
  intro p b p' h
  have e1 := fun B p => xRun_bind (r := r) (f := f) B p
  rw [e1] at h ⊢
  split at h
  · rename_i a q hr
    rw [h1 p a q hr]
    exact h2 a q b p' h
  · cases h
theorem xLc_map {α β : Type} {r : Reader DecodeError α} {f : α → β} (h1 : xLc k W C r) : xLc k W C (f <$> r) := by
  rw [map_eq_pure_bind]
  exact xLc_bind h1 (fun a => xLc_pure _)
theorem xLc_u1 (hp : ∀ i b, W.data.toList[i]? = some b → C.data.toList[i + k]? = some b) : xLc k W C Reader.u1 := by
  intro p a p' h
  have e1 : ∀ (B : ByteArray) (p : Nat), (Reader.u1 : Reader DecodeError Nat).runAt B p = (if h : p < B.size then .ok (B[p].toNat, p + 1) else .error (HasTruncated.truncated p)) := by
    intro B p
    show ((if h : p < B.size then (do set (p + 1); pure B[p].toNat : Reader DecodeError Nat) else throw (HasTruncated.truncated p)).runAt B p) = _
    by_cases hq : p < B.size
    · rw [dif_pos hq, dif_pos hq]
      rfl
    · rw [dif_neg hq, dif_neg hq]
      rfl
  rw [e1] at h ⊢
  split at h
  · rename_i hq
    cases h
    have h2 := hp p (W[p]) (by
      rw [Array.getElem?_toList]
      exact Array.getElem?_eq_getElem hq)
    rw [Array.getElem?_toList] at h2
    obtain ⟨h3, h4⟩ := Array.getElem?_eq_some_iff.mp h2
    have h5 : p + k < C.size := h3
    rw [dif_pos h5]
    have h6 : C[p + k] = W[p] := h4
    rw [h6]
    show Except.ok (_, p + k + 1) = Except.ok (_, p + 1 + k)
    rw [Nat.add_right_comm]
  · cases h
theorem xLc_u2 (hp : ∀ i b, W.data.toList[i]? = some b → C.data.toList[i + k]? = some b) : xLc k W C Reader.u2 := xLc_bind (xLc_u1 hp) fun _ => xLc_bind (xLc_u1 hp) fun _ => xLc_pure _
theorem xLc_u4 (hp : ∀ i b, W.data.toList[i]? = some b → C.data.toList[i + k]? = some b) : xLc k W C Reader.u4 := xLc_bind (xLc_u2 hp) fun _ => xLc_bind (xLc_u2 hp) fun _ => xLc_pure _
theorem xLc_s1 (hp : ∀ i b, W.data.toList[i]? = some b → C.data.toList[i + k]? = some b) : xLc k W C Reader.s1 := xLc_map (xLc_u1 hp)
theorem xLc_s2 (hp : ∀ i b, W.data.toList[i]? = some b → C.data.toList[i + k]? = some b) : xLc k W C Reader.s2 := xLc_map (xLc_u2 hp)
theorem xLc_s4 (hp : ∀ i b, W.data.toList[i]? = some b → C.data.toList[i + k]? = some b) : xLc k W C Reader.s4 := xLc_map (xLc_u4 hp)
theorem xW_size (hp : ∀ i b, W.data.toList[i]? = some b → C.data.toList[i + k]? = some b) {n : Nat} (hn : n ≤ W.size) (h0 : 0 < n) : n + k ≤ C.size := by
  have h : n - 1 < W.data.toList.length := by
    have : W.data.toList.length = W.size := Array.length_toList
    omega
  have h2 := hp (n - 1) _ (List.getElem?_eq_getElem h)
  have h3 := (List.getElem?_eq_some_iff.mp h2).1
  have : C.data.toList.length = C.size := Array.length_toList
  omega
theorem xLc_pad (hp : ∀ i b, W.data.toList[i]? = some b → C.data.toList[i + k]? = some b) (hk : k % 4 = 0) (hkC : k ≤ C.size) : xLc k W C Decoder.padding := by
  intro p a p' h
  have e1 : ∀ (B : ByteArray) (p : Nat), (Decoder.padding).runAt B p = (if p + (4 - p % 4) % 4 ≤ B.size then .ok ((), p + (4 - p % 4) % 4) else .error (HasTruncated.truncated B.size)) := by
    intro B p
    have e0 : (Decoder.padding).runAt B p = ((Reader.bytes ((4 - p % 4) % 4) : Reader DecodeError ByteArray) >>= fun _ => (pure () : Reader DecodeError Unit)).runAt B p := rfl
    rw [e0, xRun_bind, xRun_bytes]
    by_cases hq : p + (4 - p % 4) % 4 ≤ B.size
    · rw [if_pos hq, if_pos hq]
      rfl
    · rw [if_neg hq, if_neg hq]
  rw [e1] at h ⊢
  split at h
  · rename_i hq
    cases h
    have e2 : (p + k) % 4 = p % 4 := by omega
    rw [e2]
    rw [if_pos (by
      rcases Nat.eq_zero_or_pos (p + (4 - p % 4) % 4) with h0 | h0
      · omega
      · have := xW_size hp hq h0
        omega)]
    show Except.ok ((), p + k + _) = Except.ok ((), _ + k)
    rw [Nat.add_right_comm]
  · cases h
theorem xLc_go {α : Type} {r : Reader DecodeError α} (h : xLc k W C r) : ∀ (n : Nat) (acc : Array α), xLc k W C (Reader.times.go r n acc) := by
  intro n
  induction n with
  | zero => intro acc; exact xLc_pure _
  | succ n ih => intro acc; exact xLc_bind h fun a => ih _
theorem xLc_times {α : Type} {r : Reader DecodeError α} (h : xLc k W C r) (n : Nat) : xLc k W C (Reader.times n r) := xLc_go h n _
theorem xLc_unless {b : Bool} {e : DecodeError} : xLc k W C (unless b do throw e : Reader DecodeError Unit) := by
  cases b
  · exact xLc_throw _
  · exact xLc_pure _
theorem xLc_unlessP {b : Prop} [Decidable b] {e : DecodeError} : xLc k W C (unless b do throw e : Reader DecodeError Unit) := by
  by_cases h : b
  · rw [if_pos h]; exact xLc_pure _
  · rw [if_neg h]; exact xLc_throw _
theorem xLc_tb {α β : Type} {e : DecodeError} {f : α → Reader DecodeError β} : xLc k W C ((throw e : Reader DecodeError α) >>= f) := by
  intro p b p' h
  cases h
theorem xLc_tsw (hp : ∀ i b, W.data.toList[i]? = some b → C.data.toList[i + k]? = some b) (hk : k % 4 = 0) (hkC : k ≤ C.size) (pc : Nat) : xLc k W C (Decoder.tableswitch pc) := by
  refine xLc_bind (xLc_pad hp hk hkC) fun _ => xLc_bind (xLc_s4 hp) fun d => xLc_bind (xLc_s4 hp) fun lo => xLc_bind (xLc_s4 hp) fun hi => ?_
  dsimp only
  split
  · exact xLc_bind (xLc_times (xLc_s4 hp) _) fun _ => xLc_pure _
  · exact xLc_tb
theorem xLc_lsw (hp : ∀ i b, W.data.toList[i]? = some b → C.data.toList[i + k]? = some b) (hk : k % 4 = 0) (hkC : k ≤ C.size) (pc : Nat) : xLc k W C (Decoder.lookupswitch pc) := by
  refine xLc_bind (xLc_pad hp hk hkC) fun _ => xLc_bind (xLc_s4 hp) fun d => xLc_bind (xLc_s4 hp) fun n => ?_
  dsimp only
  split
  · refine xLc_bind (xLc_times (xLc_bind (xLc_s4 hp) fun _ => xLc_bind (xLc_s4 hp) fun _ => xLc_pure _) _) fun _ => ?_
    split
    · exact xLc_pure _
    · exact xLc_tb
  · exact xLc_tb
theorem xLc_iif (hp : ∀ i b, W.data.toList[i]? = some b → C.data.toList[i + k]? = some b) (pc : Nat) : xLc k W C (Decoder.invokeinterface pc) := by
  refine xLc_bind (xLc_u2 hp) fun _ => xLc_bind (xLc_u1 hp) fun _ => xLc_bind (xLc_u1 hp) fun _ => ?_
  dsimp only
  split
  · exact xLc_pure _
  · exact xLc_tb
theorem xLc_idy (hp : ∀ i b, W.data.toList[i]? = some b → C.data.toList[i + k]? = some b) (pc : Nat) : xLc k W C (Decoder.invokedynamic pc) := by
  refine xLc_bind (xLc_u2 hp) fun _ => xLc_bind (xLc_u2 hp) fun _ => ?_
  dsimp only
  split
  · exact xLc_pure _
  · exact xLc_tb
theorem xLc_mna (hp : ∀ i b, W.data.toList[i]? = some b → C.data.toList[i + k]? = some b) (pc : Nat) : xLc k W C (Decoder.multianewarray pc) := by
  refine xLc_bind (xLc_u2 hp) fun _ => xLc_bind (xLc_u1 hp) fun _ => ?_
  dsimp only
  split
  · exact xLc_pure _
  · exact xLc_tb
theorem xLc_new (hp : ∀ i b, W.data.toList[i]? = some b → C.data.toList[i + k]? = some b) (pc : Nat) : xLc k W C (Decoder.newarray pc) := by
  refine xLc_bind (xLc_u1 hp) fun x => ?_
  split
  all_goals first
    | exact xLc_pure _
    | exact xLc_throw _
theorem xLc_wide (hp : ∀ i b, W.data.toList[i]? = some b → C.data.toList[i + k]? = some b) (pc : Nat) : xLc k W C (Decoder.wide pc) := by
  refine xLc_bind (xLc_u1 hp) fun x => ?_
  split
  all_goals first
    | exact xLc_throw _
    | exact xLc_bind (xLc_u2 hp) fun _ => xLc_pure _
    | exact xLc_bind (xLc_u2 hp) fun _ => xLc_bind (xLc_s2 hp) fun _ => xLc_pure _
end WIN
