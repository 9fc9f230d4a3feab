/-! ===== THE LAW'S TEXT IN A ROW ===== -/
theorem TXT_none {p : Rw} (h : p 1 < 1) : TXT p [] := by
  refine ⟨(fun _ => 0, fun _ => 3, fun _ => 0, fun _ => 0), 0, 0, 0, ?_, by omega, by rw [if_neg (by omega)]; rfl, fun k hk => absurd hk (Nat.not_lt_zero _), rfl⟩
  refine ⟨Nat.le_refl _, rfl, rfl, rfl, fun i hi => absurd hi (Nat.not_lt_zero _), fun i hi => ?_⟩
  have : i = 0 := by omega
  subst this
  exact ⟨Int.le_refl _, Int.le_refl _, fun j _ hj => absurd hj (by show ¬ ((j : Int) < 0); omega)⟩
theorem pLaw_nil {T : TK} {m N j : Nat} {ls : List Ln} (hT : okT T m N) (h : pLaw T N = (j, some ls)) (h0 : ls.length = 0) : ls = [] := by
  cases ls with
  | nil => rfl
  | cons x ls => exact absurd h0 (by simp)
theorem TXT_lw {p : Rw} {b : Nat → Int} {T : TK} {m N j : Nat} {ls : List Ln} (hTb : T.1 = b) (hm : m ≤ 400) (hT : okT T m N) (h : pLaw T N = (j, some ls)) : TXT (lwR p b m ls.length) ls := by
  by_cases h0 : ls.length = 0
  · rw [pLaw_nil hT h h0]
    exact TXT_none (by show (if (1 : Nat) = 1 then (([] : List Ln).length : Int) else _) < 1; rw [if_pos rfl]; decide)
  · have e1 : lwR p b m ls.length 1 = (ls.length : Int) := by unfold lwR; rw [if_pos rfl]
    have e2 : lwR p b m ls.length 2 = (m : Int) := by unfold lwR; rw [if_neg (by decide), if_pos rfl]
    refine ⟨T, m, N, j, hT, hm, ?_, fun k hk => ?_, h⟩
    · rw [e1, e2, if_pos (by omega)]
    · unfold lwR
      rw [if_neg (by omega), if_neg (by omega), if_pos (by omega), hTb, show 331 + k - 331 = k by omega]
theorem WF.lw {p : Rw} {b : Nat → Int} {m l : Nat} (hW : WF p) (hl : l ≤ 12) : WF (lwR p b m l) := by
  have r4 : p 4 ≤ 5 := hW.2.1.2
  have r3 : p 3 ≤ 5 := hW.1.2
  obtain ⟨g1, g2, g3, g4, g5, g6, g7, g8, g9, g10, g11, g12, g13, g14, g15, g16⟩ := hW
  have n : ∀ k, k < 331 → k ≠ 1 → k ≠ 2 → lwR p b m l k = p k := fun k h h1 h2 => by unfold lwR; rw [if_neg h1, if_neg h2, if_neg (by omega)]
  have n1 : lwR p b m l 1 = (l : Int) := by unfold lwR; rw [if_pos rfl]
  unfold WF
  rw [n 3 (by omega) (by omega) (by omega), n 4 (by omega) (by omega) (by omega), n 0 (by omega) (by omega) (by omega), n1, n 5 (by omega) (by omega) (by omega), n 6 (by omega) (by omega) (by omega), n 7 (by omega) (by omega) (by omega), n 8 (by omega) (by omega) (by omega), n 9 (by omega) (by omega) (by omega), n 10 (by omega) (by omega) (by omega), n 11 (by omega) (by omega) (by omega), n 12 (by omega) (by omega) (by omega), n 13 (by omega) (by omega) (by omega), n 14 (by omega) (by omega) (by omega)]
  refine ⟨g1, g2, g3, g4, g5, g6, g7, g8, g9, g10, by omega, fun r hr => ?_, fun t ht => ?_, fun t u ht hu => ?_, fun r o hr ho => ?_, ?_⟩
  · have := g12 r hr
    unfold rW rD rS rR at *
    rw [n _ (by omega) (by omega) (by omega), n _ (by omega) (by omega) (by omega), n _ (by omega) (by omega) (by omega)]
    exact ⟨this.1, this.2.1, fun w hw => by rw [n _ (by omega) (by omega) (by omega)]; exact this.2.2.1 w hw, this.2.2.2⟩
  · have := g13 t ht
    unfold tP_ tW_ tL_ at *
    rw [n _ (by omega) (by omega) (by omega), n _ (by omega) (by omega) (by omega), n _ (by omega) (by omega) (by omega)]
    exact this
  · have := g14 t u ht hu
    unfold tL_ at *
    rw [n _ (by omega) (by omega) (by omega), n _ (by omega) (by omega) (by omega)]
    exact this
  · have := g15 r o hr ho
    unfold dO_ at *
    rw [n _ (by omega) (by omega) (by omega), n _ (by omega) (by omega) (by omega)]
    exact this
  · rcases g16 with g | g
    · exact Or.inl g
    · right
      unfold rW rD at *
      have x1 : lwR p b m l (16 + 7 * (p 5).toNat) = p (16 + 7 * (p 5).toNat) := n _ (by omega) (by omega) (by omega)
      have x2 : lwR p b m l (17 + 7 * (p 5).toNat) = p (17 + 7 * (p 5).toNat) := n _ (by omega) (by omega) (by omega)
      rw [x1, x2]
      exact g
section CUT
variable {d : Nat} {V : xF} {D : yD} {Q : xRes → xF → yD → Prop} {b : Nat → Int}
theorem ca_end {n k : Int} (hT : Tp V b n) (h : ∀ V', (if 0 ≤ k ∧ k ≤ n then V' = up2 V 76 1 k else V' = V) → Q (.inl (some (vi (if 0 ≤ k ∧ k ≤ n then 1 else 0)))) V' D) : RY d 4 0 [vr 70, vi k] [] V D Q := by
  obtain ⟨t1, t2, t3, t4, t5, t6⟩ := hT
  refine u_4_0 (u_123_0 ⟨fun hn => ?_, fun h0 => ⟨fun hle => ?_, fun hlt => ?_⟩⟩)
  · have := h V (by rw [if_neg (by omega)])
    rw [if_neg (by omega)] at this
    exact u_4_8 ⟨Or.inl rfl, this⟩
  · rw [t4] at hle
    rintro V1 hV1
    have := h V1 (by rw [if_pos ⟨h0, hle⟩]; exact hV1)
    rw [if_pos ⟨h0, hle⟩] at this
    exact u_4_8 ⟨Or.inr rfl, this⟩
  · rw [t4] at hlt
    have := h V (by rw [if_neg (by omega)])
    rw [if_neg (by omega)] at this
    exact u_4_8 ⟨Or.inl rfl, this⟩
end CUT
