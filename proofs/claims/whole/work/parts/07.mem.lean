/-! ===== THE HEAP: reads, stores and makings, by the relation ===== -/
def xtyk (ty : FieldType) : Nat := match ty with
  | .int => 0
  | .boolean => 3
  | .long => 1
  | .object _ => 2
  | .array _ => 2
  | _ => 9
/-- the classes' rows are as they must be -/
def xClOK (cl : List vw_C) (Tg : List Cond) : Prop := cl.length < 20 ∧ ∀ (cn : Nat) (r : vw_C), cl[cn]? = some r → (∀ w ∈ u_ws r.1 r.2.1 r.2.2, w ∈ Tg) ∧
  (∃ ty : Nat → FieldType, ∀ k, k < r.2.2 → parseFieldDescriptor (r.2.1 k).2.2.1 = some (ty k) ∧ xtyk (ty k) = xfk (r.2.1 k).2.2.1) ∧
  (∀ a, a < r.2.2 → ∀ b, b < r.2.2 → a ≠ b → (r.2.1 a).2.1 ≠ (r.2.1 b).2.1)
def xlowOK (S : Nat) (K0 : Nat → Nat × Nat) : Prop := 0 < S ∧ ∀ a, a < S → (K0 a).1 = 0 ∨ (K0 a).1 = 21 ∨ (K0 a).1 = 26
section MEM
variable {cl : List vw_C} {Tg : List Cond} {G : xG} {S : Nat} {K0 : Nat → Nat × Nat} {V0 : xF} {ad0 ad : Nat → Nat} {M M' : xM} {H : Heap}
theorem xRel.made (h : xRel cl G S K0 V0 ad0 ad M H) (h0 : xlowOK S K0) {a : Nat} (h1 : (M.2.2.2.1 a).1 ≠ 0) (h2 : (M.2.2.2.1 a).1 ≠ 21) (h3 : (M.2.2.2.1 a).1 ≠ 26) : S ≤ a ∧ a < M.2.2.2.2.1 := by
  obtain ⟨-, -, -, -, -, -, -, hn, hl⟩ := h
  refine ⟨Nat.le_of_not_lt fun q => ?_, Nat.lt_of_not_le fun q => h1 (by rw [hn a q])⟩
  have e := (hl a q).1
  rcases h0.2 a q with h | h | h
  · exact h1 (by rw [e]; exact h)
  · exact h2 (by rw [e]; exact h)
  · exact h3 (by rw [e]; exact h)
theorem xcell_obj {ca : Nat → ClassId} {a cn N : Nat} {C : String} {T : u_T} (hc : cl[cn]? = some (C, T, N)) (hcn : cn + 1 < 20) (ht : (M.2.2.2.1 a).1 = cn + 1) : xcell cl ca ad M a = .inr (cn, (List.range N).map (fun j => xfv ad M a j (xfk (T j).2.2.1))) := by
  have e1 : xN cl cn = N := by unfold xN; rw [hc]
  have e2 : xFd cl cn = T := by unfold xFd; rw [hc]
  unfold xcell
  rw [ht, if_neg (by omega), if_neg (by omega), if_neg (by omega), Nat.add_sub_cancel, e1, e2]
theorem xcell_int {ca : Nat → ClassId} {a t : Nat} (ht : (M.2.2.2.1 a).1 = t) (h : t = 20 ∨ t = 23) : xcell cl ca ad M a = .inl (ca t, (M.2.2.2.1 a).2, .inl (fun j => Int32.ofInt (M.1 a j))) := by
  unfold xcell
  rw [ht, if_pos h]
theorem xcell_long {ca : Nat → ClassId} {a : Nat} (ht : (M.2.2.2.1 a).1 = 22) : xcell cl ca ad M a = .inl (ca 22, (M.2.2.2.1 a).2, .inr (.inl (fun j => Int64.ofInt (M.2.1 a j)))) := by
  unfold xcell
  rw [ht, if_neg (by decide), if_pos rfl]
theorem xcell_ref {ca : Nat → ClassId} {a t : Nat} (ht : (M.2.2.2.1 a).1 = t) (h : t = 24 ∨ t = 25) : xcell cl ca ad M a = .inl (ca t, (M.2.2.2.1 a).2, .inr (.inr (.inr (.inr (fun j => xrf ad (M.2.2.1 a j)))))) := by
  unfold xcell
  rw [ht, if_neg (by omega), if_neg (by omega), if_pos h]
theorem xcell_congr {ca : Nat → ClassId} {ad' : Nat → Nat} {a : Nat} (hK : M'.2.2.2.1 a = M.2.2.2.1 a) (h1 : ∀ j, M'.1 a j = M.1 a j) (h2 : ∀ j, M'.2.1 a j = M.2.1 a j) (h3 : ∀ j, M'.2.2.1 a j = M.2.2.1 a j) (h4 : ∀ j, ad' (M.2.2.1 a j) = ad (M.2.2.1 a j)) :
    xcell cl ca ad' M' a = xcell cl ca ad M a := by
  have e1 : (fun j => Int32.ofInt (M'.1 a j)) = (fun j => Int32.ofInt (M.1 a j)) := funext fun j => by rw [h1]
  have e2 : (fun j => Int64.ofInt (M'.2.1 a j)) = (fun j => Int64.ofInt (M.2.1 a j)) := funext fun j => by rw [h2]
  have e3 : (fun j => xrf ad' (M'.2.2.1 a j)) = (fun j => xrf ad (M.2.2.1 a j)) := funext fun j => by unfold xrf; rw [h3, h4]
  have e4 : ∀ k : Nat → Nat, (fun j => xfv ad' M' a j (k j)) = (fun j => xfv ad M a j (k j)) := fun k => funext fun j => by unfold xfv xref; rw [h1, h2, h3, h4]
  unfold xcell
  rw [hK, e1, e2, e3, e4]
/-- one cell is another now -/
theorem xRel.upd (h : xRel cl G S K0 V0 ad0 ad M H) {a : Nat} (ha : S ≤ a) (hn : a < M.2.2.2.2.1) (hz : M'.2.2.2 = M.2.2.2) (h1 : ∀ b j, b ≠ a → M'.1 b j = M.1 b j) (h2 : ∀ b j, b ≠ a → M'.2.1 b j = M.2.1 b j) (h3 : ∀ b j, b ≠ a → M'.2.2.1 b j = M.2.2.1 b j)
    (r1 : ∀ j, r32 (M'.1 a j)) (r2 : ∀ j, r64 (M'.2.1 a j)) (r3 : ∀ j, M'.2.2.1 a j < M.2.2.2.2.1) {e : va_E} (he : xcell cl G.2.1 ad M' a = e) {H1 : Heap}
    (hP : va_P G.1 cl ((xws cl G.2.1 ad S M).set (a - S) (ad a, e)) H1) (hD : va_D (fun q => G.2.2.1 ≤ q) ((xws cl G.2.1 ad S M).set (a - S) (ad a, e))) : xRel cl G S K0 V0 ad0 ad M' H1 := by
  obtain ⟨q1, q2, q3, q4, q5, q6, q7, q8, q9⟩ := h
  have ew := xws_set (cl := cl) (ca := G.2.1) (ad := ad) (S := S) (M := M) (M' := M') (a := a) (e := e) ha hn (by rw [hz]) he (fun b hb => xcell_congr (by rw [hz]) (fun j => h1 b j hb) (fun j => h2 b j hb) (fun j => h3 b j hb) (fun j => rfl))
  rw [ew] at hP hD
  refine ⟨by rw [hz]; exact q1, hP, hD, fun b j => ?_, fun b j => ?_, fun b j => ?_, by rw [hz]; exact q7, by rw [hz]; exact q8, fun b hb => ?_⟩
  · by_cases hba : b = a
    · rw [hba]; exact r1 j
    · rw [h1 b j hba]; exact q4 b j
  · by_cases hba : b = a
    · rw [hba]; exact r2 j
    · rw [h2 b j hba]; exact q5 b j
  · rw [hz]
    by_cases hba : b = a
    · rw [hba]; exact r3 j
    · rw [h3 b j hba]; exact q6 b j
  · obtain ⟨g1, g2, g3⟩ := q9 b hb
    exact ⟨by rw [hz]; exact g1, fun i => by rw [h1 b i (by omega)]; exact g2 i, g3⟩
/-- one cell more -/
theorem xRel.push (h : xRel cl G S K0 V0 ad0 ad M H) {q : Nat} (hM : M'.2.2.2.2.1 = M.2.2.2.2.1 + 1) (hK : ∀ b, b ≠ M.2.2.2.2.1 → M'.2.2.2.1 b = M.2.2.2.1 b) (h1 : ∀ b j, b ≠ M.2.2.2.2.1 → M'.1 b j = M.1 b j) (h2 : ∀ b j, b ≠ M.2.2.2.2.1 → M'.2.1 b j = M.2.1 b j) (h3 : ∀ b j, b ≠ M.2.2.2.2.1 → M'.2.2.1 b j = M.2.2.1 b j)
    (r1 : ∀ j, r32 (M'.1 M.2.2.2.2.1 j)) (r2 : ∀ j, r64 (M'.2.1 M.2.2.2.2.1 j)) (r3 : ∀ j, M'.2.2.1 M.2.2.2.2.1 j = 0) (ht : xtag cl (M'.2.2.2.1 M.2.2.2.2.1).1 ∧ (M'.2.2.2.1 M.2.2.2.2.1).2 < 2147483648) {e : va_E} (he : xcell cl G.2.1 (up1 ad M.2.2.2.2.1 q) M' M.2.2.2.2.1 = e) {H1 : Heap}
    (hP : va_P G.1 cl (xws cl G.2.1 ad S M ++ [(q, e)]) H1) (hD : va_D (fun q => G.2.2.1 ≤ q) (xws cl G.2.1 ad S M ++ [(q, e)])) : xRel cl G S K0 V0 ad0 (up1 ad M.2.2.2.2.1 q) M' H1 := by
  obtain ⟨q1, q2, q3, q4, q5, q6, q7, q8, q9⟩ := h
  have eu : ∀ b, b ≠ M.2.2.2.2.1 → up1 ad M.2.2.2.2.1 q b = ad b := fun b hb => by unfold up1; rw [if_neg hb]
  have es : up1 ad M.2.2.2.2.1 q M.2.2.2.2.1 = q := by unfold up1; rw [if_pos rfl]
  have ew : xws cl G.2.1 ad S M ++ [(q, e)] = xws cl G.2.1 (up1 ad M.2.2.2.2.1 q) S M' := by
    apply List.ext_getElem?
    intro i
    by_cases hi : i < M.2.2.2.2.1 - S
    · rw [List.getElem?_append_left (by rw [xws_len]; exact hi)]
      have e1 := xws_at (cl := cl) (ca := G.2.1) (ad := ad) (S := S) (M := M) (a := S + i) (by omega) (by omega)
      have e2 := xws_at (cl := cl) (ca := G.2.1) (ad := up1 ad M.2.2.2.2.1 q) (S := S) (M := M') (a := S + i) (by omega) (by omega)
      rw [show S + i - S = i by omega] at e1 e2
      have hne : S + i ≠ M.2.2.2.2.1 := by omega
      rw [e1, e2, eu _ hne, xcell_congr (hK _ hne) (fun j => h1 _ j hne) (fun j => h2 _ j hne) (fun j => h3 _ j hne) (fun j => eu _ (Nat.ne_of_lt (q6 _ j)))]
    · by_cases hi2 : i = M.2.2.2.2.1 - S
      · subst hi2
        rw [List.getElem?_append_right (by rw [xws_len]; omega), xws_len, Nat.sub_self]
        have e2 := xws_at (cl := cl) (ca := G.2.1) (ad := up1 ad M.2.2.2.2.1 q) (S := S) (M := M') (a := M.2.2.2.2.1) q1 (by omega)
        rw [e2, es, he]
        rfl
      · rw [List.getElem?_eq_none (by rw [List.length_append, xws_len, List.length_singleton]; omega), List.getElem?_eq_none (by rw [xws_len, hM]; omega)]
  rw [ew] at hP hD
  refine ⟨by omega, hP, hD, fun b j => ?_, fun b j => ?_, fun b j => ?_, fun b hb hb2 => ?_, fun b hb => ?_, fun b hb => ?_⟩
  · by_cases hba : b = M.2.2.2.2.1
    · rw [hba]; exact r1 j
    · rw [h1 b j hba]; exact q4 b j
  · by_cases hba : b = M.2.2.2.2.1
    · rw [hba]; exact r2 j
    · rw [h2 b j hba]; exact q5 b j
  · by_cases hba : b = M.2.2.2.2.1
    · rw [hba, r3 j]; omega
    · rw [h3 b j hba]
      have := q6 b j
      omega
  · by_cases hba : b = M.2.2.2.2.1
    · rw [hba]; exact ht
    · rw [hK b hba]; exact q7 b hb (by omega)
  · rw [hK b (by omega)]; exact q8 b (by omega)
  · have hne : b ≠ M.2.2.2.2.1 := by omega
    obtain ⟨g1, g2, g3⟩ := q9 b hb
    exact ⟨by rw [hK b hne]; exact g1, fun i => by rw [h1 b i hne]; exact g2 i, by rw [eu b hne]; exact g3⟩
/-- only the heap is another, beyond what was there -/
theorem xRel.kept (h : xRel cl G S K0 V0 ad0 ad M H) {H1 : Heap} (hk : ∀ q : Nat, q < H.size → H1[q]? = H[q]?) : xRel cl G S K0 V0 ad0 ad M H1 := by
  obtain ⟨q1, q2, q3⟩ := h
  exact ⟨q1, q2.kept (fun k x hx => hk x.1 ((q2 k x hx).lt)), q3⟩
/-- only the counts are others -/
theorem xRel.cnt (h : xRel cl G S K0 V0 ad0 ad M H) {x y : Nat} : xRel cl G S K0 V0 ad0 ad (M.1, M.2.1, M.2.2.1, M.2.2.2.1, M.2.2.2.2.1, x, y) H := h
end MEM
