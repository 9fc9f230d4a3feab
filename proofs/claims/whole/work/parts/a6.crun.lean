/-! ===== THE CONSTRUCTORS, TO THEIR ENDS ===== -/
def crun (P : xP) : Nat → Nat → Nat → List xV → List xV → cM → Option cM
  | 0, _, _, _, _, _ => none
  | k + 1, y, pc, ls, st, C => match xfind pc (P.1 y) with
    | none => none
    | some e => match cstep e ls st C with
      | none => none
      | some (.inl q) => crun P k y q.1 q.2.1 q.2.2.1 q.2.2.2
      | some (.inr (.inr C')) => some C'
      | some (.inr (.inl q)) => match Nat.ble (xlay q.2.1).length (P.2.1 q.1), Nat.blt (P.2.2.1 q.1) (P.2.2.1 y) with
        | true, true => match crun P k q.1 0 (xlocs (P.2.1 q.1) q.2.1) [] C with
          | none => none
          | some C1 => crun P k y (pc + 3) ls q.2.2 C1
        | _, _ => none
/-- the law's method up to its loop -/
def ctop (P : xP) (y stp : Nat) : Nat → Nat → List xV → List xV → cM → Option (List xV × cM)
  | 0, _, _, _, _ => none
  | k + 1, pc, ls, st, C => match Nat.beq pc stp with
    | true => match st with
      | [] => some (ls, C)
      | _ => none
    | false => match xfind pc (P.1 y) with
      | none => none
      | some e => match cstep e ls st C with
        | none => none
        | some (.inl q) => ctop P y stp k q.1 q.2.1 q.2.2.1 q.2.2.2
        | some (.inr (.inr _)) => none
        | some (.inr (.inl q)) => match Nat.ble (xlay q.2.1).length (P.2.1 q.1), Nat.blt (P.2.2.1 q.1) (P.2.2.1 y) with
          | true, true => match crun P 400 q.1 0 (xlocs (P.2.1 q.1) q.2.1) [] C with
            | none => none
            | some C1 => ctop P y stp k (pc + 3) ls q.2.2 C1
          | _, _ => none
section CRUN
variable {V0 : xF} {K0 : Nat → Nat × Nat}
theorem xdep_lt {P : xP} {d y y' : Nat} {args : List xV} (h1 : Nat.ble (xlay args).length (P.2.1 y') = true) (h2 : Nat.blt (P.2.2.1 y') (P.2.2.1 y) = true) : xdep P d y y' args = some d := by
  unfold xdep
  rw [if_pos h1, if_pos h2]
theorem crun_ok {P : xP} (hV : ∀ a, 70 ≤ a → V0 a = fun _ => 0) : ∀ (k : Nat) {y pc : Nat} {ls st : List xV} {C C' : cM}, cOK C → crun P k y pc ls st C = some C' → cOK C' ∧ ∀ (d : Nat) (Q : xRes → xM → Prop), Q (.inl none) (cden V0 K0 C') → Runs P d y pc ls st (cden V0 K0 C) Q := by
  intro k
  induction k with
  | zero => intro y pc ls st C C' _ h; cases h
  | succ k ih =>
    intro y pc ls st C C' hC h
    unfold crun at h
    cases he : xfind pc (P.1 y) with
    | none => rw [he] at h; cases h
    | some e =>
      rw [he] at h
      dsimp only at h
      cases hs : cstep e ls st C with
      | none => rw [hs] at h; cases h
      | some o =>
        rw [hs] at h
        have hg := cstep_ok (K0 := K0) hV hC hs
        match o, hg, h with
        | .inl q, hg, h =>
          obtain ⟨pc', ls', st', C1⟩ := q
          obtain ⟨hC1, g, e1, e2⟩ := hg
          obtain ⟨r1, r2⟩ := ih hC1 h
          exact ⟨r1, fun d Q hQ => Runs.step he e1 e2 (r2 d Q hQ)⟩
        | .inr (.inr C1), hg, h =>
          obtain ⟨e0, g, e1, e2⟩ := hg
          cases h
          subst e0
          refine ⟨hC, fun d Q hQ => Runs.stop (c := P.1 y) rfl (g := g) ?_ e2 hQ⟩
          unfold xstop
          rw [he]
          dsimp only
          rw [e1]
        | .inr (.inl q), hg, h =>
          obtain ⟨y', args, rest⟩ := q
          obtain ⟨g, e1, e2⟩ := hg
          dsimp only at h
          split at h
          · rename_i b1 b2
            cases hc : crun P k y' 0 (xlocs (P.2.1 y') args) [] C with
            | none => rw [hc] at h; cases h
            | some C1 =>
              rw [hc] at h
              obtain ⟨s1, s2⟩ := ih hC hc
              obtain ⟨r1, r2⟩ := ih s1 h
              refine ⟨r1, fun d Q hQ => Runs.callD (c := P.1 y) (d' := d) rfl (g := g) ?_ e2 (xdep_lt b1 b2) (s2 d _ (r2 d Q hQ))⟩
              unfold xstop
              rw [he]
              dsimp only
              rw [e1]
          · cases h
theorem ctop_ok {P : xP} {y stp : Nat} (hV : ∀ a, 70 ≤ a → V0 a = fun _ => 0) : ∀ (k : Nat) {pc : Nat} {ls st : List xV} {C : cM} {r : List xV × cM}, cOK C → ctop P y stp k pc ls st C = some r → cOK r.2 ∧ ∀ (d : Nat) (Q : xRes → xM → Prop), Runs P d y stp r.1 [] (cden V0 K0 r.2) Q → Runs P d y pc ls st (cden V0 K0 C) Q := by
  intro k
  induction k with
  | zero => intro pc ls st C r _ h; cases h
  | succ k ih =>
    intro pc ls st C r hC h
    unfold ctop at h
    cases hb : Nat.beq pc stp with
    | true =>
      rw [hb] at h
      dsimp only at h
      split at h
      · cases h
        have := beq_t hb
        subst this
        exact ⟨hC, fun d Q hQ => hQ⟩
      · cases h
    | false =>
      rw [hb] at h
      dsimp only at h
      cases he : xfind pc (P.1 y) with
      | none => rw [he] at h; cases h
      | some e =>
        rw [he] at h
        dsimp only at h
        cases hs : cstep e ls st C with
        | none => rw [hs] at h; cases h
        | some o =>
          rw [hs] at h
          have hg := cstep_ok (K0 := K0) hV hC hs
          match o, hg, h with
          | .inl q, hg, h =>
            obtain ⟨pc', ls', st', C1⟩ := q
            obtain ⟨hC1, g, e1, e2⟩ := hg
            obtain ⟨r1, r2⟩ := ih hC1 h
            exact ⟨r1, fun d Q hQ => Runs.step he e1 e2 (r2 d Q hQ)⟩
          | .inr (.inr C1), hg, h => cases h
          | .inr (.inl q), hg, h =>
            obtain ⟨y', args, rest⟩ := q
            obtain ⟨g, e1, e2⟩ := hg
            dsimp only at h
            split at h
            · rename_i b1 b2
              cases hc : crun P 400 y' 0 (xlocs (P.2.1 y') args) [] C with
              | none => rw [hc] at h; cases h
              | some C1 =>
                rw [hc] at h
                obtain ⟨s1, s2⟩ := crun_ok (K0 := K0) hV 400 hC hc
                obtain ⟨r1, r2⟩ := ih s1 h
                refine ⟨r1, fun d Q hQ => Runs.callD (c := P.1 y) (d' := d) rfl (g := g) ?_ e2 (xdep_lt b1 b2) (s2 d _ (r2 d Q hQ))⟩
                unfold xstop
                rw [he]
                dsimp only
                rw [e1]
            · cases h
end CRUN
/-! what they leave -/
def cC0 : cM := ([], [], [], 70, 0, 0)
theorem cC0_ok : cOK cC0 := ⟨rfl, fun e h => (nomatch h), fun e h => (nomatch h)⟩
def kd0 : Nat → Nat × Nat := fun _ => (0, 0)
def lw0 : Nat → Nat := fun _ => 71
/-- the ints that count -/
def cFacts : List (Nat × Nat × Int) := [(70, 1, -1), (70, 5, 0), (70, 7, 0), (70, 8, 0), (71, 0, -1), (76, 1, 0), (405, 3, 0), (405, 6, 0), (405, 8, 0), (405, 12, -1), (405, 15, 0), (405, 16, 0),
  (81, 0, 0), (81, 6, 0), (81, 10, 0), (81, 12, -1), (81, 13, -1), (81, 14, 20), (81, 15, 0), (81, 16, 2), (81, 17, 0), (81, 18, 0), (81, 19, 1), (406, 1, -1), (406, 5, -1), (406, 8, 20), (406, 10, 2), (406, 15, 1)]
def cchk (q : List xV × cM) : Bool :=
  decide (q.1 = [vr 1, vr 70, vr 405, vr 420, vi 0, vr 0, vr 0]) && Nat.beq q.2.2.2.2.1 421 && Nat.ble q.2.2.2.2.2.1 2000 && Nat.ble q.2.2.2.2.2.2 200000 &&
  (List.range' 70 351).all (fun a => Nat.beq (gK q.2 a).1 (yK0 a).1 && Nat.beq (gK q.2 a).2 (yK0 a).2) &&
  q.2.2.1.all (fun e => Nat.ble 70 e.1 && Nat.blt e.2.1 121) &&
  (List.range' 70 351).all (fun a => (List.range 121).all (fun j => Nat.beq (gR (q.2.2.1.filter (fun e => Nat.beq e.1 a)) a j) (yR lw0 kd0 a j))) &&
  q.2.1.all (fun e => Nat.ble 70 e.1 && !Nat.beq e.1 77 && !Nat.beq e.1 410 && !(Nat.ble 82 e.1 && Nat.ble e.1 91) && (!Nat.beq e.1 406 || Nat.beq e.2.1 1 || Nat.beq e.2.1 5 || Nat.beq e.2.1 8 || Nat.beq e.2.1 10 || Nat.beq e.2.1 15)) &&
  cFacts.all (fun f => decide (gV q.2.1 f.1 f.2.1 = f.2.2))
set_option maxRecDepth 100000 in
theorem ctop_chk : (match ctop xPP 381 23 100 0 (xlocs 7 [vr 1]) [] cC0 with | some q => cchk q | none => false) = true := by decide +kernel
