/-! ===== THE LAW'S TEXT, AS CODE ===== -/
abbrev pRes : Type := Nat × Option (List Int)
def bN (r : pRes) (f : Nat → List Int → pRes) : pRes := match r.2 with
  | none => (r.1, none)
  | some l => f r.1 l
def rOk (r : pRes) (S : Nat → List Int → Prop) (F : Nat → Prop) : Prop := match r.2 with
  | some l => S r.1 l
  | none => F r.1
theorem rOk_bN {r : pRes} {f : Nat → List Int → pRes} {S : Nat → List Int → Prop} {F : Nat → Prop} : rOk (bN r f) S F ↔ rOk r (fun j l => rOk (f j l) S F) F := by
  obtain ⟨j, o⟩ := r
  cases o with
  | none => exact Iff.rfl
  | some l => exact Iff.rfl
theorem rOk_mono {r : pRes} {S S' : Nat → List Int → Prop} {F F' : Nat → Prop} (hS : ∀ j l, r = (j, some l) → S j l → S' j l) (hF : ∀ e, r = (e, none) → F e → F' e) (h : rOk r S F) : rOk r S' F' := by
  obtain ⟨j, o⟩ := r
  cases o with
  | none => exact hF j rfl h
  | some l => exact hS j l rfl h
noncomputable def pif (c : Prop) (a b : pRes) : pRes := @ite _ c (Classical.propDecidable _) a b
theorem pif_y {c : Prop} {a b : pRes} (h : c) : pif c a b = a := by unfold pif; rw [if_pos h]
theorem pif_n {c : Prop} {a b : pRes} (h : ¬ c) : pif c a b = b := by unfold pif; rw [if_neg h]
/-- the names of facts -/
def nmW (k : Nat) : List Int := wdS (46 + k)
/-- a text in things -/
abbrev TK : Type := (Nat → Int) × (Nat → Int) × (Nat → Int) × (Nat → Int)
def kW (T : TK) (i : Nat) (s : List Int) : Prop := tW T.1 T.2.1 T.2.2.1 T.2.2.2 i s
def kS (T : TK) (i : Nat) (c : Int) : Prop := tSg T.1 T.2.1 T.2.2.1 i c
def kN (T : TK) (i : Nat) (lo hi v : Int) : Prop := tN T.1 T.2.1 T.2.2.1 T.2.2.2 i lo hi v
/-- a part of a sum: a number, or a fact -/
noncomputable def pPart (T : TK) (i : Nat) : Option Int :=
  @ite _ (∃ v, kN T i 0 999 v) (Classical.propDecidable _) (some (Classical.epsilon (kN T i 0 999)))
    (@ite _ (kW T i (nmW 0)) (Classical.propDecidable _) (some 1000) (@ite _ (kW T i (nmW 1)) (Classical.propDecidable _) (some 1001) (@ite _ (kW T i (nmW 2)) (Classical.propDecidable _) (some 1002) (@ite _ (kW T i (nmW 3)) (Classical.propDecidable _) (some 1003)
    (@ite _ (kW T i (nmW 4)) (Classical.propDecidable _) (some 1004) (@ite _ (kW T i (nmW 5)) (Classical.propDecidable _) (some 1005) (@ite _ (kW T i (nmW 6)) (Classical.propDecidable _) (some 1006) (@ite _ (kW T i (nmW 7)) (Classical.propDecidable _) (some 1007) none))))))))
noncomputable def pSum (T : TK) : Nat → Nat → pRes
  | 0, i => (i, none)
  | n + 1, i => match pPart T i with
    | none => (i, none)
    | some c => pif (kS T (i + 1) 43) (bN (pSum T n (i + 2)) (fun j l => (j, some (c :: l)))) (i + 1, some [c])
/-- atom, every, its rest, some, its rest -/
noncomputable def pG (T : TK) : Nat → Nat → Nat → Nat → pRes
  | 0, _, _, i => (i, none)
  | n + 1, 0, dp, i => pif (kW T i (wdS 43)) (pif (dp = 6) (i, none) (bN (pG T n 0 (dp + 1) (i + 1)) (fun j l => (j, some (l ++ [-6])))))
      (pif (kS T i 40) (pif (dp = 6) (i, none) (bN (pG T n 3 (dp + 1) (i + 1)) (fun j l => pif (kS T j 41) (j + 1, some l) (j, none))))
      (pif (kW T i (wdS 44)) (i + 1, some [-4]) (pif (kW T i (wdS 45)) (i + 1, some [-5])
      (bN (pSum T n i) (fun j l => pif (kS T j 60) (bN (pSum T n (j + 1)) (fun j' l' => (j', some (l ++ (-1 :: l') ++ [-2])))) (pif (kS T j 62) (bN (pSum T n (j + 1)) (fun j' l' => (j', some (l ++ (-1 :: l') ++ [-3])))) (j, none)))))))
  | n + 1, 1, dp, i => bN (pG T n 0 dp i) (fun j l => bN (pG T n 2 dp j) (fun j' l' => (j', some (l ++ l'))))
  | n + 1, 2, dp, i => pif (kW T i (wdS 54)) (bN (pG T n 0 dp (i + 1)) (fun j l => bN (pG T n 2 dp j) (fun j' l' => (j', some (l ++ [-7] ++ l'))))) (i, some [])
  | n + 1, 3, dp, i => bN (pG T n 1 dp i) (fun j l => bN (pG T n 4 dp j) (fun j' l' => (j', some (l ++ l'))))
  | n + 1, _, dp, i => pif (kW T i (wdS 55)) (bN (pG T n 1 dp (i + 1)) (fun j l => bN (pG T n 4 dp j) (fun j' l' => (j', some (l ++ [-8] ++ l'))))) (i, some [])
section PARSE
variable {T : TK} {m N : Nat}
abbrev okT (T : TK) (m N : Nat) : Prop := IsTok T.1 m N T.2.1 T.2.2.1 T.2.2.2
theorem kW_lt (hT : okT T m N) {i : Nat} {s : List Int} (hi : i ≤ N) (h : kW T i s) : i < N := hT.lt hi (by rw [h.1]; decide)
theorem kS_lt (hT : okT T m N) {i : Nat} {c : Int} (hi : i ≤ N) (h : kS T i c) : i < N := hT.lt hi (by rw [h.1]; decide)
theorem kN_lt (hT : okT T m N) {i : Nat} {lo hi v : Int} (hi' : i ≤ N) (h : kN T i lo hi v) : i < N := hT.lt hi' (by rw [h.1]; decide)
theorem pPart_lt (hT : okT T m N) {i : Nat} {c : Int} (hi : i ≤ N) (h : pPart T i = some c) : i < N := by
  unfold pPart at h
  split at h
  · rename_i hx
    obtain ⟨v, hv⟩ := hx
    exact kN_lt hT hi hv
  · (repeat' split at h) <;> first | (exact kW_lt hT hi (by assumption)) | cases h
theorem pSum_bd (hT : okT T m N) : ∀ (n i : Nat), i ≤ N → rOk (pSum T n i) (fun j l => i < j ∧ j ≤ N ∧ l.length + 1 ≤ 2 * (j - i) ∧ 1 ≤ l.length) (fun e => e ≤ N)
  | 0, i, hi => hi
  | n + 1, i, hi => by
    unfold pSum
    cases hp : pPart T i with
    | none => exact hi
    | some c =>
      have hlt := pPart_lt hT hi hp
      dsimp only
      by_cases hs : kS T (i + 1) 43
      · rw [pif_y hs, rOk_bN]
        have := kS_lt hT (by omega) hs
        refine rOk_mono (fun j l _ h => ?_) (fun e _ h => h) (pSum_bd hT n (i + 2) (by omega))
        show _ ∧ _ ∧ (l.length + 1) + 1 ≤ _ ∧ 1 ≤ l.length + 1
        omega
      · rw [pif_n hs]
        show i < i + 1 ∧ i + 1 ≤ N ∧ 1 + 1 ≤ 2 * (i + 1 - i) ∧ 1 ≤ 1
        omega
def bdP (N md i j : Nat) (l : List Int) : Prop := i ≤ j ∧ j ≤ N ∧ ((md = 2 ∨ 4 ≤ md) → l.length ≤ 2 * (j - i)) ∧ (¬ (md = 2 ∨ 4 ≤ md) → i < j ∧ l.length + 1 ≤ 2 * (j - i))
theorem pG_bd (hT : okT T m N) : ∀ (n md dp i : Nat), i ≤ N → rOk (pG T n md dp i) (fun j l => bdP N md i j l) (fun e => e ≤ N) := by
  intro n
  induction n with
  | zero => intro md dp i hi; exact hi
  | succ n ih =>
    intro md dp i hi
    have two : ∀ (a c a' c' : Nat) (l : List Int) (i0 : Nat), i0 ≤ N → rOk (pG T n a dp i0) (fun j l1 => rOk (bN (pG T n a' dp j) (fun j' l' => (j', some (l1 ++ l ++ l')))) (fun j' l'' => ∃ j1 l1 l2, bdP N a i0 j1 l1 ∧ bdP N a' j1 j' l2 ∧ l'' = l1 ++ l ++ l2) (fun e => e ≤ N)) (fun e => e ≤ N) := by
      intro a c a' c' l i0 h0
      refine rOk_mono (fun j l1 _ h => ?_) (fun e _ h => h) (ih a dp i0 h0)
      rw [rOk_bN]
      exact rOk_mono (fun j' l' _ h' => ⟨j, l1, l', h, h', rfl⟩) (fun e _ h => h) (ih a' dp j h.2.1)
    match md with
    | 0 =>
      show rOk (pif _ _ _) _ _
      by_cases h1 : kW T i (wdS 43)
      · have hlt := kW_lt hT hi h1
        rw [pif_y h1]
        by_cases h6 : dp = 6
        · rw [pif_y h6]; exact hi
        · rw [pif_n h6, rOk_bN]
          refine rOk_mono (fun j l _ h => ?_) (fun e _ h => h) (ih 0 (dp + 1) (i + 1) (by omega))
          show bdP N 0 i j (l ++ [-6])
          unfold bdP at h ⊢
          rw [List.length_append]
          have := h.2.2.2 (by omega)
          show _ ∧ _ ∧ _ ∧ _
          refine ⟨by omega, h.2.1, fun h => by omega, fun _ => ⟨by omega, ?_⟩⟩
          show l.length + 1 + 1 ≤ _
          omega
      · rw [pif_n h1]
        by_cases h2 : kS T i 40
        · have hlt := kS_lt hT hi h2
          rw [pif_y h2]
          by_cases h6 : dp = 6
          · rw [pif_y h6]; exact hi
          · rw [pif_n h6, rOk_bN]
            refine rOk_mono (fun j l _ h => ?_) (fun e _ h => h) (ih 3 (dp + 1) (i + 1) (by omega))
            unfold bdP at h
            have h4 := h.2.2.2 (by omega)
            by_cases h5 : kS T j 41
            · have hlt2 := kS_lt hT h.2.1 h5
              rw [pif_y h5]
              show bdP N 0 i (j + 1) l
              unfold bdP
              exact ⟨by omega, by omega, fun h => by omega, fun _ => ⟨by omega, by omega⟩⟩
            · rw [pif_n h5]; exact h.2.1
        · rw [pif_n h2]
          by_cases h3 : kW T i (wdS 44)
          · have hlt := kW_lt hT hi h3
            rw [pif_y h3]
            show bdP N 0 i (i + 1) [-4]
            exact ⟨by omega, by omega, fun h => by omega, fun _ => ⟨by omega, by show 1 + 1 ≤ _; omega⟩⟩
          · rw [pif_n h3]
            by_cases h4 : kW T i (wdS 45)
            · have hlt := kW_lt hT hi h4
              rw [pif_y h4]
              show bdP N 0 i (i + 1) [-5]
              exact ⟨by omega, by omega, fun h => by omega, fun _ => ⟨by omega, by show 1 + 1 ≤ _; omega⟩⟩
            · rw [pif_n h4, rOk_bN]
              refine rOk_mono (fun j l _ h => ?_) (fun e _ h => h) (pSum_bd hT n i hi)
              obtain ⟨g1, g2, g3, g4⟩ := h
              have cmp : ∀ z : Int, j + 1 ≤ N → rOk (bN (pSum T n (j + 1)) (fun j' l' => (j', some (l ++ (-1 :: l') ++ [z])))) (fun j l => bdP N 0 i j l) (fun e => e ≤ N) := by
                intro z hj
                rw [rOk_bN]
                refine rOk_mono (fun j' l' _ h' => ?_) (fun e _ h => h) (pSum_bd hT n (j + 1) hj)
                show bdP N 0 i j' (l ++ (-1 :: l') ++ [z])
                unfold bdP
                rw [List.length_append, List.length_append, List.length_cons]
                refine ⟨by omega, by omega, fun h => by omega, fun _ => ⟨by omega, ?_⟩⟩
                show l.length + (l'.length + 1) + 1 + 1 ≤ _
                omega
              by_cases h5 : kS T j 60
              · rw [pif_y h5]; exact cmp _ (kS_lt hT g2 h5)
              · rw [pif_n h5]
                by_cases h6 : kS T j 62
                · rw [pif_y h6]; exact cmp _ (kS_lt hT g2 h6)
                · rw [pif_n h6]; exact g2
    | 1 =>
      show rOk (bN (pG T n 0 dp i) (fun j l => bN (pG T n 2 dp j) (fun j' l' => (j', some (l ++ l'))))) _ _
      rw [rOk_bN]
      refine rOk_mono (fun j l _ h => ?_) (fun e _ h => h) (ih 0 dp i hi)
      rw [rOk_bN]
      refine rOk_mono (fun j' l' _ h' => ?_) (fun e _ h => h) (ih 2 dp j h.2.1)
      show bdP N 1 i j' (l ++ l')
      unfold bdP at *
      rw [List.length_append]
      have := h.2.2.2 (by omega)
      have := h'.2.2.1 (by omega)
      exact ⟨by omega, by omega, fun h => by omega, fun _ => ⟨by omega, by omega⟩⟩
    | 2 =>
      show rOk (pif _ _ _) _ _
      by_cases h1 : kW T i (wdS 54)
      · have hlt := kW_lt hT hi h1
        rw [pif_y h1, rOk_bN]
        refine rOk_mono (fun j l _ h => ?_) (fun e _ h => h) (ih 0 dp (i + 1) (by omega))
        rw [rOk_bN]
        refine rOk_mono (fun j' l' _ h' => ?_) (fun e _ h => h) (ih 2 dp j h.2.1)
        show bdP N 2 i j' (l ++ [-7] ++ l')
        unfold bdP at *
        rw [List.length_append, List.length_append]
        have := h.2.2.2 (by omega)
        have := h'.2.2.1 (by omega)
        refine ⟨by omega, by omega, fun _ => ?_, fun h => by omega⟩
        show l.length + 1 + l'.length ≤ _
        omega
      · rw [pif_n h1]
        show bdP N 2 i i []
        exact ⟨by omega, hi, fun _ => by show 0 ≤ _; omega, fun h => by omega⟩
    | 3 =>
      show rOk (bN (pG T n 1 dp i) (fun j l => bN (pG T n 4 dp j) (fun j' l' => (j', some (l ++ l'))))) _ _
      rw [rOk_bN]
      refine rOk_mono (fun j l _ h => ?_) (fun e _ h => h) (ih 1 dp i hi)
      rw [rOk_bN]
      refine rOk_mono (fun j' l' _ h' => ?_) (fun e _ h => h) (ih 4 dp j h.2.1)
      show bdP N 3 i j' (l ++ l')
      unfold bdP at *
      rw [List.length_append]
      have := h.2.2.2 (by omega)
      have := h'.2.2.1 (by omega)
      exact ⟨by omega, by omega, fun h => by omega, fun _ => ⟨by omega, by omega⟩⟩
    | k + 4 =>
      show rOk (pif _ _ _) _ _
      by_cases h1 : kW T i (wdS 55)
      · have hlt := kW_lt hT hi h1
        rw [pif_y h1, rOk_bN]
        refine rOk_mono (fun j l _ h => ?_) (fun e _ h => h) (ih 1 dp (i + 1) (by omega))
        rw [rOk_bN]
        refine rOk_mono (fun j' l' _ h' => ?_) (fun e _ h => h) (ih 4 dp j h.2.1)
        show bdP N (k + 4) i j' (l ++ [-8] ++ l')
        unfold bdP at *
        rw [List.length_append, List.length_append]
        have := h.2.2.2 (by omega)
        have := h'.2.2.1 (by omega)
        refine ⟨by omega, by omega, fun _ => ?_, fun h => by omega⟩
        show l.length + 1 + l'.length ≤ _
        omega
      · rw [pif_n h1]
        show bdP N (k + 4) i i []
        exact ⟨by omega, hi, fun _ => by show 0 ≤ _; omega, fun h => by omega⟩
end PARSE
/-! ===== what code says ===== -/
abbrev eSt : Type := List Bool × Int × Int
/-- facts: F 0 .. F 7; still; open -/
def evC (F : Nat → Int) (st op : Bool) (c : Int) (q : eSt) : eSt :=
  if c = -1 then (q.1, 0, q.2.1) else if c = -2 then (decide (q.2.2 < q.2.1) :: q.1, 0, q.2.2) else if c = -3 then (decide (q.2.1 < q.2.2) :: q.1, 0, q.2.2)
  else if c = -4 then (st :: q.1, q.2) else if c = -5 then (op :: q.1, q.2)
  else if c = -6 then (match q.1 with | a :: r => (!a) :: r | [] => [], q.2)
  else if c = -7 then (match q.1 with | a :: e :: r => (e && a) :: r | r => r, q.2)
  else if c = -8 then (match q.1 with | a :: e :: r => (e || a) :: r | r => r, q.2)
  else (q.1, wr (q.2.1 + (if c < 1000 then c else F (c - 1000).toNat)), q.2.2)
def evL (F : Nat → Int) (st op : Bool) (l : List Int) (q : eSt) : eSt := l.foldl (fun q c => evC F st op c q) q
theorem evL_app {F : Nat → Int} {st op : Bool} {l l' : List Int} {q : eSt} : evL F st op (l ++ l') q = evL F st op l' (evL F st op l q) := List.foldl_append
theorem evL_cons {F : Nat → Int} {st op : Bool} {c : Int} {l : List Int} {q : eSt} : evL F st op (c :: l) q = evL F st op l (evC F st op c q) := rfl
/-- a truth is found; a sum is found -/
def EV (F : Nat → Int) (st op : Bool) (l : List Int) (v : Bool) : Prop := ∀ s lf, ∃ lf', evL F st op l (s, 0, lf) = (v :: s, 0, lf')
def SV (F : Nat → Int) (st op : Bool) (l : List Int) (v : Int) : Prop := ∀ s lf, evL F st op l (s, 0, lf) = (s, v, lf)
theorem EV.uni {F : Nat → Int} {st op : Bool} {l : List Int} {v w : Bool} (h : EV F st op l v) (h' : EV F st op l w) : v = w := by
  obtain ⟨a, ha⟩ := h [] 0
  obtain ⟨c, hc⟩ := h' [] 0
  rw [ha] at hc
  have := congrArg Prod.fst hc
  exact (List.cons.inj this).1
