/-! ===== WHAT IS MADE NEVER GROWS LESS ===== -/
def xLe (M M' : xM) : Prop := M.2.2.2.2.1 ≤ M'.2.2.2.2.1 ∧ M.2.2.2.2.2.1 ≤ M'.2.2.2.2.2.1 ∧ M.2.2.2.2.2.2 ≤ M'.2.2.2.2.2.2
theorem xLe.rf (M : xM) : xLe M M := ⟨Nat.le_refl _, Nat.le_refl _, Nat.le_refl _⟩
theorem xLe.tr {M M' M2 : xM} (h : xLe M M') (h' : xLe M' M2) : xLe M M2 := ⟨Nat.le_trans h.1 h'.1, Nat.le_trans h.2.1 h'.2.1, Nat.le_trans h.2.2 h'.2.2⟩
def xOutLe (M : xM) (o : xOut) : Prop := match o with
  | .inl (_, _, _, M') => xLe M M'
  | .inr (.inl _) => True
  | .inr (.inr (_, M')) => xLe M M'
theorem xLe_nx {pc : Nat} {ls st : List xV} {M M0 : xM} {g g' : List Prop} {o : xOut} (h : nx pc ls st M g = some (o, g')) (hM : xLe M0 M) : xOutLe M0 o := by
  rw [(q_nx h).1]
  exact hM
set_option maxHeartbeats 4000000 in
theorem xstep_le {e : xI} {ls st : List xV} {M : xM} {o : xOut} {g : List Prop} (h : xstep e ls st M = some (o, g)) : xOutLe M o := by
  obtain ⟨pc, ins, len, a, b, c, z⟩ := e
  cases ins <;> simp only [xstep, xldI, xldL, xldA, xstI, xstL, xstA, xII, xLL] at h <;> (repeat' split at h) <;> first | (cases h; done) | exact xLe_nx h (xLe.rf M) | (cases h; exact trivial) | (cases h; exact xLe.rf M) | exact xLe_nx h ⟨by dsimp only; omega, by dsimp only; omega, by dsimp only; omega⟩ | (cases h; exact ⟨by dsimp only; omega, by dsimp only; omega, by dsimp only; omega⟩)
theorem exec_le {P : xP} : ∀ {k d y pc : Nat} {ls st : List xV} {M M' : xM} {r : xRes}, exec P k d y pc ls st M = some (r, M') → xLe M M' := by
  intro k
  induction k with
  | zero => intro d y pc ls st M M' r h; cases h
  | succ k ih =>
    intro d y pc ls st M M' r h
    rw [exec_succ] at h
    split at h
    · cases h
    · rename_i e he
      split at h
      · cases h
      · rename_i o g hs
        have hle := xstep_le hs
        by_cases hg : xall g
        · rw [if_pos hg] at h
          match o, hle with
          | .inl (pc', ls', st', M1), hle => exact hle.tr (ih h)
          | .inr (.inr q), hle => cases h; exact hle
          | .inr (.inl (y', args, rest)), _ =>
            dsimp only at h
            split at h
            · cases h
            · rename_i d' hd
              split at h
              · cases h
              · rename_i M1 hc
                exact (ih hc).tr (ih h)
              · rename_i v M1 hc
                exact (ih hc).tr (ih h)
              · rename_i E M1 hc
                split at h
                · split at h
                  · cases h; exact ih hc
                  · cases h
                · exact (ih hc).tr (ih h)
        · rw [if_neg hg] at h
          cases h
