/-! ===== THE FOUR MEMBERS AS INSTRUCTIONS ===== -/
section XIN
variable {l : Launch} {G : xG}
set_option maxRecDepth 20000 in
theorem x_i1 : xI1 xTab2 G l := by
  intro p e R s m args below meth c H locs cells slots Q pc ls rest own idx i hx hml hown hts hGr hS hRf hRl hc hs hcat hlink hi hdg kk
  have hi : i < 67 := hi
  have hGr1 : xGr xTab G s s.heap := xGr_sub hGr
  have hts1 : ∀ w ∈ xTg, w.before args s = true := hts
  have hstr := hGr1.2.2.2.1 i hi
  refine j_call (va_runV (C := jS) (cc := c.code) (nL := ls.size) (Ts := xTg) (As := []) (rest := rest) ⟨hx, rfl, hml, hown, hts1⟩ (j_len (G := G) hi) ⟨callB_of 0 hts1 (jgood (jW (List.mem_of_getElem? (i := 26) rfl))) rfl rfl rfl (hts1 _ (jW (List.mem_of_getElem? (i := 6) rfl))) (hts1 _ hlink) (by decide +kernel) ⟨by show 1 + 1 ≤ R.frames; omega, by show 8 + (1 + 11) + 20 ≤ R.locals; omega⟩, hts1 _ (jW (List.mem_of_getElem? (i := 24) rfl)), hts1 _ (jW (List.mem_of_getElem? (i := 25) rfl))⟩ ⟨jPc.blind, va_Orecv hstr.1 hS, jPc.at hGr1 hS⟩ rfl rfl rfl rfl (by show 2 * 0 + _ ≤ 8; omega) hdg ⟨hc, hs⟩) ?_
  exact kk _ (nI_toInt (jLen_lt hi))
theorem tV0_str {xs : Nat → Int32} {i k : Nat} : tV0 xTab2 xs (3 + i) k = (jByt i k &&& 255).toInt := by
  unfold tV0
  rw [if_neg (by omega), if_neg (by omega), if_neg (by omega), show 3 + i - 3 = i by omega]
  rfl
set_option maxRecDepth 20000 in
theorem x_i2 : xI2 xTab2 G l := by
  intro p e R s m args below meth c H locs cells slots Q pc ls rest own idx i k hx hml hown hts hGr hS hRf hRl hc hs hcat hlink hi hin hdg kk
  have hi : i < 67 := hi
  have hGr1 : xGr xTab G s s.heap := xGr_sub hGr
  have hts1 : ∀ w ∈ xTg, w.before args s = true := hts
  have hstr := hGr1.2.2.2.1 i hi
  obtain ⟨n, hn, rfl⟩ := nI_of (fun q => hin (Or.inl q))
  have hk : n < jLen i := by
    have := Nat.not_le.mp (fun q => hin (Or.inr q))
    rw [nI_clamp hn] at this
    exact this
  refine j_call (va_runV (C := jS) (cc := c.code) (nL := ls.size) (Ts := xTg) (As := [.int (nI n)]) (rest := rest) ⟨hx, rfl, hml, hown, hts1⟩ (j_chr (G := G) hi hk) ⟨callB_of 1 hts1 (jgood (jW (List.mem_of_getElem? (i := 29) rfl))) rfl rfl rfl (hts1 _ (jW (List.mem_of_getElem? (i := 6) rfl))) (hts1 _ hlink) (by decide +kernel) ⟨by show 3 + 1 ≤ R.frames; omega, by show 8 + (2 + 11) + 64 ≤ R.locals; omega⟩, hts1 _ (jW (List.mem_of_getElem? (i := 27) rfl)), hts1 _ (jW (List.mem_of_getElem? (i := 28) rfl))⟩ ⟨jPc.blind, va_Orecv hstr.1 hS, jPc.at hGr1 hS⟩ rfl rfl rfl rfl (by show 2 * 0 + _ ≤ 8; omega) hdg ⟨hc, hs⟩) ?_
  refine kk _ ?_
  rw [tV0_str, nI_toInt hn]
  rfl
theorem jIx_V {xs : Nat → Int32} {i : Nat} {x : Int32} (hi : i < 67) : ∀ n k, n + k = jLen i → (jIx i x n k).toInt = xixF (tV0 xTab2 xs) (3 + i) x.toInt n k := by
  intro n
  induction n with
  | zero => intro k hk; rfl
  | succ n ih =>
    intro k hk
    have hlt := jLen_lt hi
    show (if jByt i k &&& 255 = x then nI k else jIx i x n (k + 1)).toInt = if tV0 xTab2 xs (3 + i) k = x.toInt then (k : Int) else xixF (tV0 xTab2 xs) (3 + i) x.toInt n (k + 1)
    rw [tV0_str]
    by_cases h : jByt i k &&& 255 = x
    · rw [if_pos h, if_pos (by rw [h]), nI_toInt (by omega)]
    · rw [if_neg h, if_neg (fun q => h (Int32.toInt.inj q)), ih (k + 1) (by omega)]
theorem xix_out {xs : Nat → Int32} {i : Nat} {z : Int} (hz : z < 0 ∨ 255 < z) : ∀ n k, xixF (tV0 xTab2 xs) (3 + i) z n k = -1 := by
  intro n
  induction n with
  | zero => intro k; rfl
  | succ n ih =>
    intro k
    show (if tV0 xTab2 xs (3 + i) k = z then (k : Int) else xixF (tV0 xTab2 xs) (3 + i) z n (k + 1)) = -1
    obtain ⟨j, hj, e⟩ := pk_andE (jByt i k) (m := 255) 8 (by decide)
    rw [tV0_str, e, nI_toInt (by omega), if_neg (by omega), ih]
theorem jR_V {xs : Nat → Int32} {i : Nat} {x : Int32} (hi : i < 67) : (jR i x).toInt = xixF (tV0 xTab2 xs) (3 + i) x.toInt (jLen i) 0 := by
  unfold jR
  by_cases h0 : x < 0
  · rw [if_pos h0, xix_out (Or.inl (by rw [o_lt, o_0] at h0; exact h0))]
    rfl
  · rw [if_neg h0]
    by_cases h1 : 255 < x
    · rw [if_pos h1, xix_out (Or.inr (by rw [o_lt] at h1; exact h1))]
      rfl
    · rw [if_neg h1]
      exact jIx_V hi _ 0 (by omega)
set_option maxRecDepth 20000 in
theorem x_i3 : xI3 xTab2 G l := by
  intro p e R s m args below meth c H locs cells slots Q pc ls rest own idx i k hx hml hown hts hGr hS hRf hRl hc hs hcat hlink hi hdg kk
  have hi : i < 67 := hi
  have hGr1 : xGr xTab G s s.heap := xGr_sub hGr
  have hts1 : ∀ w ∈ xTg, w.before args s = true := hts
  have hstr := hGr1.2.2.2.1 i hi
  refine j_call (va_runV (C := jS) (cc := c.code) (nL := ls.size) (Ts := xTg) (As := [.int k]) (rest := rest) ⟨hx, rfl, hml, hown, hts1⟩ (j_ix1 (G := G) hi) ⟨callB_of 1 hts1 (jgood (jW (List.mem_of_getElem? (i := 32) rfl))) rfl rfl rfl (hts1 _ (jW (List.mem_of_getElem? (i := 6) rfl))) (hts1 _ hlink) (by decide +kernel) ⟨by show 3 + 1 ≤ R.frames; omega, by show 8 + (2 + 11) + 70 ≤ R.locals; omega⟩, hts1 _ (jW (List.mem_of_getElem? (i := 30) rfl)), hts1 _ (jW (List.mem_of_getElem? (i := 31) rfl))⟩ ⟨jPc.blind, va_Orecv hstr.1 hS, jPc.at hGr1 hS⟩ rfl rfl rfl rfl (by show 2 * 0 + _ ≤ 8; omega) hdg ⟨hc, hs⟩) ?_
  exact kk _ (jR_V hi)
set_option maxRecDepth 20000 in
theorem x_i4 : xI4 xTab2 G l := by
  intro p e R s m args below meth c H locs cells slots Q pc ls rest own idx r x ad M hx hml hown hts hGr hA hR hS hRf hRl hc hs hcat hlink hk20 hx0 hdg kk
  have hts1 : ∀ w ∈ xTg, w.before args s = true := hts
  have hrun := va_runS (l := l) (p := p) (e := e) (R := R) (s := s) (m := m) (args := args) (below := below) (meth := meth) (c := c) (H := H) (locs := locs) (cells := cells) (slots := slots) (cc := c.code) (nL := ls.size) (Ts := xTg) (own := own) (index := idx) (g := F0 m pc ls (.int x :: .ref (ad r) :: rest)) (As := [.ref (ad r), .int x]) (rest := rest) ⟨hx, rfl, hml, hown, hts1⟩ (j_cpy (l := l) (G := G) (ad := ad) hk20 hx0) ⟨callB_of 2 hts1 (jgood (jW (List.mem_of_getElem? (i := 56) rfl))) rfl rfl rfl (hts1 _ (jW (List.mem_of_getElem? (i := 55) rfl))) (hts1 _ hlink) (by decide +kernel) ⟨by show 1 + 1 ≤ R.frames; omega, by show 8 + (3 + 11) + 200 ≤ R.locals; omega⟩, hts1 _ (jW (List.mem_of_getElem? (i := 54) rfl))⟩ ⟨xPc.blind, xPc.at hGr hA hR hS⟩ rfl rfl rfl rfl (by show 2 * 0 + _ ≤ 8; omega) hdg ⟨hc, hs⟩
  intro T hT X
  obtain ⟨v, st₀, t, T', L, h0, X', hL, e1, -, ⟨q, hv, hR', hF⟩, go⟩ := hrun T hT X
  cases hv
  have hS' : va_S (xA G) s.heap T'.heap (locs ++ L) := by
    obtain ⟨f1, f2⟩ := hF
    rw [h0] at f1 f2
    refine ⟨Nat.le_trans hS.1 (by rw [e1]; exact f1), fun q g1 g2 => by rw [e1, f2 q (Nat.lt_of_lt_of_le g1 hS.1) g2]; exact hS.2.1 q g1 g2, fun q hq => ?_⟩
    rcases List.mem_append.mp hq with h | h
    · exact hS.2.2 q h
    · exact hL q h
  obtain ⟨t2, a1, b1⟩ := kk q T'.heap (locs ++ L) (by rw [e1]; exact hR') hS' T' rfl X'
  exact ⟨t2, go t2 a1, b1⟩
theorem x_in : xIn xTab2 G l := ⟨x_i1, x_i2, x_i3, x_i4⟩
end XIN
