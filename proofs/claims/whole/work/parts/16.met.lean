theorem o_char {w : Int32} (h : 0 ≤ w.toInt ∧ w.toInt < 65536) : ∃ n, n < 65536 ∧ w = nI n := by
  refine ⟨w.toInt.toNat, by omega, ?_⟩
  apply Int32.toInt.inj
  rw [nI_toInt (by omega)]
  omega
section MET
variable {T : xTT} {G : xG} {l : Launch} {k : Nat}
theorem xF_of {s t : State} {H : Heap} {locs : List Loc} (hS : va_S (xA G) s.heap H locs) (hz : H.size ≤ t.heap.size) (hq : ∀ q : Nat, q < H.size → t.heap[q]? = H[q]?) : va_F (xA G) s t :=
  ⟨Nat.le_trans hS.1 hz, fun q h1 h2 => by rw [hq q (Nat.lt_of_lt_of_le h1 hS.1)]; exact hS.2.1 q h1 h2⟩
theorem xbadw {s : State} {args : Array Value} {H : Heap} (hGr : xGr T G s H) {w : Cond} (hw : w ∈ tbad T) : w.before args s = true := by
  obtain ⟨-, -, -, -, -, -, -, -, g14, -⟩ := hGr
  obtain ⟨h1, h2⟩ := g14 w hw
  rcases h1 with ⟨a, b, e⟩ | ⟨x, e⟩
  · subst e; exact va_Nw.use rfl h2
  · subst e; exact va_Nw.use rfl h2
set_option maxHeartbeats 4000000 in
theorem xfin_met {p : Program} {e : Env} {R : Room} {s : State} {m : MethodId} {args : Array Value} {below : List Frame} {meth : Method} {c : Code} {y : Nat} {ad : Nat → Nat} {n0 kc ks mc ms : Nat} {r : xRes} {M' : xM}
    (hC : xCx T l y p s m args meth c) (hGr : xGr T G s s.heap) (hRf : 8 ≤ R.frames) (hRl : 512 ≤ R.locals) (hmc : M'.2.2.2.2.2.1 = kc + mc) (hms : M'.2.2.2.2.2.2 = ks + ms) (hRc : R.cells = mc) (hRs : R.slots = ms) :
    xFin T G l p e R s m args below meth c (vx_MQ below (xQc T G ad n0 r M') (xXC T G ad n0 r M') args s mc ms (xA G)) y ad n0 kc ks r M' := by
  obtain ⟨hx, hb, hr, hown, hts, hlocks, hml, htab, hname, htr⟩ := hC
  match r with
  | .inl ov =>
    intro ad1 H1 locs1 cells1 slots1 ls1 pc1 st1 hR1 hS1 ha1 hc1 hs1 hret
    have e1 : cells1 = mc := by omega
    have e2 : slots1 = ms := by omega
    subst e1; subst e2
    refine vx_ret ?_
    match ov, hret with
    | none, ⟨hd, hst, ht⟩ =>
      subst hst
      exact W.vret hx hb (by rw [hr]; exact ht) (fun t ht hW => ⟨none, none, ad1, rfl, rfl, trivial, by rw [ht]; exact hR1, ha1, hS1.F ht⟩) hS1.2.2 hd hlocks
    | some (.inl z), ⟨hd, ⟨w, hst, hw⟩, ht⟩ =>
      subst hst
      rcases ht with ht | ⟨ht, h01⟩ | ⟨ht, h01⟩
      · exact W.iret hx hb (by rw [hr]; exact ht) (fun t ht hW => ⟨some (.inl z), some (.int w), ad1, rfl, rfl, ⟨w, rfl, hw⟩, by rw [ht]; exact hR1, ha1, hS1.F ht⟩) hS1.2.2 hd hlocks
      · exact W.zret hx hb (by rw [hr]; exact ht) (fits_bool (by rw [hw]; exact h01)).1 (fun t ht hW => ⟨some (.inl z), some (.int w), ad1, rfl, rfl, ⟨w, rfl, hw⟩, by rw [ht]; exact hR1, ha1, hS1.F ht⟩) hS1.2.2 hd hlocks
      · exact W.zret hx hb (by rw [hr]; exact ht) (by obtain ⟨n, hn, e9⟩ := o_char (w := w) (by rw [hw]; exact h01); rw [e9]; exact (pk_charN hn).1) (fun t ht hW => ⟨some (.inl z), some (.int w), ad1, rfl, rfl, ⟨w, rfl, hw⟩, by rw [ht]; exact hR1, ha1, hS1.F ht⟩) hS1.2.2 hd hlocks
    | some (.inr (.inl z)), ⟨hd, ⟨w, hst, hw⟩, ht⟩ =>
      subst hst
      exact W.lret hx hb (by rw [hr]; exact ht) (fun t ht hW => ⟨some (.inr (.inl z)), some (.long w), ad1, rfl, rfl, ⟨w, rfl, hw⟩, by rw [ht]; exact hR1, ha1, hS1.F ht⟩) hS1.2.2 hd hlocks
    | some (.inr (.inr a)), ⟨hd, hst, h0, hn, ht⟩ =>
      subst hst
      have main : ∀ rt, trt T y = some rt → ((∃ n, rt = .object n) ∨ ∃ t, rt = .array t) → W p l e R s m args below meth c H1 locs1 cells1 slots1 (MQ below (xQc T G ad n0 (.inl (some (.inr (.inr a)))) M') args s cells1 slots1 (xA G)) (F0 m pc1 ls1 [.ref (ad1 a)]) := fun rt h1 h2 =>
        W.aret (rt := rt) hx hb (by rw [hr]; exact h1) h2 (Or.inr ⟨_, rfl⟩) (fun t ht hW => ⟨some (.inr (.inr a)), some (.ref (ad1 a)), ad1, rfl, rfl, Or.inr ⟨h0, hn, rfl⟩, by rw [ht]; exact hR1, ha1, hS1.F ht⟩) hS1.2.2 hd hlocks
      rcases ht with ⟨n, ht⟩ | ⟨t, ht⟩
      · exact main _ ht (Or.inl ⟨n, rfl⟩)
      · exact main _ ht (Or.inr ⟨t, rfl⟩)
  | .inr E =>
    intro hh
    have hnone : c.exceptionTable.toList = [] := by rw [htab, hh]; rfl
    refine ⟨fun ad1 H1 locs1 cells1 slots1 ls1 pc1 st1 q ce hR1 hS1 ha1 hc1 hs1 hq hce hcl => ?_, fun ad1 H1 locs1 cells1 slots1 ls1 pc1 M0 i len b c0 z hM hR1 hS1 ha1 hc1 hs1 hsz hL => ?_⟩
    · exact vx_out (E := xEx E) (fun x hx => by rw [hnone] at hx; cases hx) hlocks hq hce hcl (fun t ht hW => ⟨E, ad1, rfl, rfl, by rw [ht]; exact hR1, ha1, hS1.F ht⟩) hS1.2.2 (by omega) (by omega)
    · obtain ⟨hd0, ic, hd3, hd4, hd7, hE, hlen, -, hfit, hws⟩ := hL
      subst hlen
      rw [hM] at hmc hms
      dsimp only at hmc hms
      have hw : ∀ w ∈ Cond.classLink (tnm T y).cls i (xEx E) :: Cond.initialized (xEx E) :: vx_at0 (tnm T y).cls ic (xEx E) (xsup E), w.before args s = true := fun w h => by
        rcases (hws w h).1 with h1 | h1
        · exact hts w h1
        · exact xbadw hGr h1
      refine vx_throw0 (A := xA G) (names := xsup E) (cls := xEx E) hx hb htr hown hfit (by intro n hn; simp only [xsup, List.mem_cons, List.not_mem_nil, or_false] at hn; rcases hn with rfl | rfl <;> decide) (hw _ List.mem_cons_self) (hw _ (List.mem_cons_of_mem _ List.mem_cons_self)) (fun w h => hw w (List.mem_cons_of_mem _ (List.mem_cons_of_mem _ h))) (fun w h => (hws w h).2) hGr.2.2.2.2.2.2.1.1 hGr.2.2.2.2.2.2.1.2 hS1 hsz hd0 hd3 hd4 hd7 (fun x hx => by rw [hnone] at hx; cases hx)
        (by show 2 + 3 < _; omega) (by show 0 + (13 * (2 + 1) + 42) ≤ _; omega) (by omega) (by omega) hlocks (fun t hal hz hq => ?_) hS1.2.2 (by omega) (by omega)
      exact ⟨E, ad1, rfl, rfl, by rw [hM]; exact (hR1.kept hq).cnt, ha1, xF_of hS1 hz hq⟩
end MET
