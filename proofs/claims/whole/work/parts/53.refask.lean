/-! the reference: a page comes to a proxy; a request -/
theorem RxAt.congr {r : Nat → Int32} {x : Nat} {P : Prx} {sh : Nat → Nat} (h : RxAt r x P) (he : ∀ k, k < pN P → sh k = pS P k) : RxAt r x (pN P, sh, P.2.2) := by
  obtain ⟨p0, p1, p2, p3, p4, p5, p6⟩ := h
  exact ⟨fun k hk => by rw [p0 k hk, ← he k hk], p1, p2, p3, p4, p5, p6⟩
theorem r8_J32 {I : HI} {m w x p fam : Nat} {C : Cf} {r : Nat → Int32} {P : Prx} (hC : WfC C) (hh : CfAt I m C) (hw : m + 5 ≤ w) (h : RxAt r x P) (h9 : pN P < 9) (hf : r 116 = nI fam) (hfm : fam < cF C) (hx : x < 4) (hp : p < 32) : ∃ r', (RxAt r' x (aCome C fam p P) ∧ ROff r r' x) ∧ X8_comeTo_J32 (rowS I w r) m w (nI x) (nI p) = some (rowS I w r') := by
  obtain ⟨p0, p1, p2, p3, p4, p5, p6⟩ := h
  have h1 : RxAt (uR (uR r (29 * x + pN P) (nI p)) (29 * x + 9) (nI (pN P + 1))) x (pN P + 1, (fun k => if k = pN P then p else pS P k), P.2.2) := by
    refine ⟨fun k hk => ?_, ?_, fun k hk => ?_, ?_, ?_, ?_, ?_⟩
    · have hk' : k < pN P + 1 := hk
      rw [uR_ne (by omega)]
      show _ = nI (if k = pN P then p else pS P k)
      by_cases hkn : k = pN P
      · rw [if_pos hkn, hkn]; exact uR_eq _ _ _
      · rw [if_neg hkn, uR_ne (by omega)]; exact p0 k (by omega)
    · rw [uR_eq]
    · rw [uR_ne (by omega), uR_ne (by omega)]; exact p2 k hk
    · rw [uR_ne (by omega), uR_ne (by omega)]; exact p3
    · rw [uR_ne (by omega), uR_ne (by omega)]; exact p4
    · rw [uR_ne (by omega), uR_ne (by omega)]; exact p5
    · show pN P + 1 ≤ 9; omega
  have o1 : ROff r (uR (uR r (29 * x + pN P) (nI p)) (29 * x + 9) (nI (pN P + 1))) x := (ROff.u (by omega)).tr (ROff.u (by omega))
  obtain ⟨r2, ⟨a1, a2⟩, a3⟩ := r8_freshen (I := I) (w := w) (i := pN P) h1 (show pN P < pN P + 1 by omega) hx
  have b1 : RxAt r2 x (pN P + 1, aAdd p (pS P), P.2.2) := by
    refine a1.congr (sh := aAdd p (pS P)) fun k hk => ?_
    have hk' : k < pN P + 1 := hk
    show aAdd p (pS P) k = aFr (pN P) (fun k => if k = pN P then p else pS P k) k
    unfold aAdd aFr
    by_cases hk0 : k = 0
    · rw [if_pos hk0, if_pos hk0]; exact (if_pos rfl).symm
    · rw [if_neg hk0, if_neg hk0, if_pos (by omega)]; exact (if_neg (by omega)).symm
  have f2 : r2 116 = nI fam := by rw [a2 _ (by omega), o1 _ (by omega)]; exact hf
  obtain ⟨r3, ⟨c1, c2⟩, c3⟩ := r8_tally (v := 1) hC hh hw b1 f2 hfm hx hp
  have d1 := c1.u (k := 29 * x + 27) (v := r3 (29 * x + 27) + 1) (by omega) (by omega)
  rw [if_neg (by omega), if_pos rfl, if_neg (by omega)] at d1
  refine ⟨_, ⟨?_, ((o1.tr a2).tr c2).tr (ROff.u (k := 29 * x + 27) (v := r3 (29 * x + 27) + 1) (by omega))⟩, ?_⟩
  · have e : r3 (29 * x + 27) = pH P := c1.2.2.2.2.1
    rw [e] at d1 ⊢
    exact d1
  · unfold X8_comeTo_J32
    rw [i_29, i_9, i_27, nmul, nadd, nadd, gv (by omega) (by omega), ncl (by omega), rowS_at, p1, nadd, gv (by omega) (by omega), lt1s, ncl (by omega), rowS_s, gv (by omega) (by omega), gv (by omega) (by omega), lt1s, rowS_at, uR_ne (by omega), p1, ninc, rowS_s, gv (by omega) (by omega), rowS_at, uR_eq, i_1, nsub (by omega), show pN P + 1 - 1 = pN P by omega, a3, bd1s]
    have c3' : f_X8_tally (rowS I w r2) m w (nI x) (nI p) (nI 1) = some (rowS I w r3) := c3
    rw [c3', bd1s, gv (by omega) (by omega), gv (by omega) (by omega), lt1s, ncl (by omega), rowS_s, rowS_at]
    first | done | rfl
theorem come_wf {C : Cf} {N : Nt} {x p t : Nat} (hC : WfC C) (hp : p < 32) (hx : x < cN C) (ht : t + 3 < 1000000) (hw : WfN C t N) (hlt : pN (nP N x) < cR C x) (hno : ∀ k, k < pN (nP N x) → pS (nP N x) k ≠ p) : WfN C (t + 3) (stP N x (aCome C (nF N) p (nP N x))) :=
  hw.px (by omega) (shf_add (hw.shf hx) hlt hp hno) (((hw.2 x hx).2.tal hC (Or.inl rfl) (by omega) (cK C) (by have := hC.2.1; omega)).mono (by have := hC.2.1; omega))
theorem go_wf {C : Cf} {N : Nt} {x i t : Nat} (hC : WfC C) (hx : x < cN C) (ht : t + 3 < 1000000) (hw : WfN C t N) (hi : i < pN (nP N x)) : WfN C (t + 3) (stP N x (aGo C (nF N) i (nP N x))) :=
  hw.px (by omega) (shf_del (hw.shf hx) hi) (((hw.2 x hx).2.tal hC (Or.inr rfl) (by omega) (cK C) (by have := hC.2.1; omega)).mono (by have := hC.2.1; omega))
theorem go_no {C : Cf} {N : Nt} {x p : Nat} (hno : ∀ k, k < pN (nP N x) → pS (nP N x) k ≠ p) (k : Nat) (hk : k < pN (nP (stP N x (aGo C (nF N) (pN (nP N x) - 1) (nP N x))) x)) : pS (nP (stP N x (aGo C (nF N) (pN (nP N x) - 1) (nP N x))) x) k ≠ p := by
  rw [stP_eq] at hk ⊢
  have hk' : k < pN (nP N x) - 1 := hk
  show aDel (pN (nP N x) - 1) (pS (nP N x)) k ≠ p
  unfold aDel
  rw [if_pos hk']
  exact hno k (by omega)
theorem r8_comeTo {I : HI} {m w x p t : Nat} {C : Cf} {r : Nat → Int32} {N : Nt} (hC : WfC C) (hh : CfAt I m C) (hw : m + 5 ≤ w) (ht : t + 6 < 1000000) (h : RnAt r C N) (hwf : WfN C t N) (hx : x < cN C) (hp : p < 32) (hno : ∀ k, k < pN (nP N x) → pS (nP N x) k ≠ p) : ∃ r', (RnAt r' C (cme C x p N) ∧ WfN C (t + 6) (cme C x p N)) ∧ f_X8_comeTo (rowS I w r) m w (nI x) (nI p) = some (rowS I w r') := by
  have hn := hC.2.2.2.2.1
  have hR := hC.2.2.2.2.2 x hx
  have hpx := h.1 x hx
  have hsh := hwf.shf hx
  have eR : ∀ q, rowS I w q (m + 4) x = nI (cR C x) := fun q => (hh.row hw q).2.2.2.2.2.2 x hx
  have hsz : pN (nP N x) ≤ cR C x := hsh.1
  unfold f_X8_comeTo
  rw [i_29, i_9, nmul, nadd, gv (by omega) (by omega), gv (by omega) (by omega), ncl (by omega), ncl (by omega), rowS_at, hpx.2.1, eR]
  by_cases hlt : pN (nP N x) < cR C x
  · rw [if_neg (by rw [neq (by omega) (by omega)]; omega)]
    obtain ⟨r1, ⟨a1, a2⟩, a3⟩ := r8_J32 hC hh hw hpx (by omega) h.2.1 hwf.1 (by omega) hp
    refine ⟨r1, ⟨?_, ?_⟩, a3⟩
    · rw [cme, if_pos hlt]; exact h.px hn hx a1 a2
    · rw [cme, if_pos hlt]; exact (come_wf hC hp hx (by omega) hwf hlt hno).mono (by omega)
  · rw [if_pos (by rw [neq (by omega) (by omega)]; omega), gv (by omega) (by omega), i_1, nsub (by omega)]
    obtain ⟨r1, ⟨a1, a2⟩, a3⟩ := r8_goOut (i := cR C x - 1) hC hh hw h hwf hx (by omega)
    rw [a3, bd1s]
    have hcr : cR C x = pN (nP N x) := by omega
    rw [hcr] at a1
    have h1 := h.px hn hx a1 a2
    have w1 := go_wf (i := pN (nP N x) - 1) hC hx (by omega) hwf (by omega)
    have e1 : pN (nP (stP N x (aGo C (nF N) (pN (nP N x) - 1) (nP N x))) x) = pN (nP N x) - 1 := by rw [stP_eq]; rfl
    obtain ⟨r2, ⟨b1, b2⟩, b3⟩ := r8_J32 (p := p) hC hh hw (h1.1 x hx) (by omega) h1.2.1 w1.1 (by omega) hp
    refine ⟨r2, ⟨?_, ?_⟩, b3⟩
    · rw [cme, if_neg hlt]; exact h1.px hn hx b1 b2
    · rw [cme, if_neg hlt]; exact (come_wf hC hp hx (by omega) w1 (by omega) (go_no hno)).mono (by omega)
theorem r8_search {I : HI} {m w x p t : Nat} {C : Cf} (hC : WfC C) (hh : CfAt I m C) (hw : m + 5 ≤ w) (hp : p < 32) (hx : x < cN C) : ∀ (j y M : Nat) (r : Nat → Int32) (N : Nt), y + j = cN C → j < M → RnAt r C N → WfN C t N → ∃ r', RnAt r' C (srch C x p j y N).2 ∧ wl3 (X8_askOn_B37 m w (nI x) (nI p)) M (rowS I w r) m9 (nI y) = X8_askOn_J123 (rowS I w r') m w (nI x) (nI p) (srch C x p j y N).1
  | 0, y, M, r, N, hy, hM, h, hwf => by
    obtain ⟨M, rfl⟩ : ∃ M', M = M' + 1 := ⟨M - 1, by omega⟩
    have hn := hC.2.2.2.2.1
    have e9 : ∀ q, rowS I w q m 9 = nI (cN C) := fun q => (hh.row hw q).2.2.2.1
    refine ⟨r, h, ?_⟩
    rw [wl3_0]
    unfold X8_askOn_B37
    rw [e9, if_neg (by rw [nlt (by omega) (by omega)]; omega)]
    rfl
  | j + 1, y, M, r, N, hy, hM, h, hwf => by
    obtain ⟨M, rfl⟩ : ∃ M', M = M' + 1 := ⟨M - 1, by omega⟩
    have hn := hC.2.2.2.2.1
    have e9 : ∀ q, rowS I w q m 9 = nI (cN C) := fun q => (hh.row hw q).2.2.2.1
    have hyn : y < cN C := by omega
    have hpy := h.1 y hyn
    rw [wl3_0, srch]
    have ih : ∀ (r : Nat → Int32) (N : Nt), RnAt r C N → WfN C t N → ∃ r', RnAt r' C (srch C x p j (y + 1) N).2 ∧ wl3 (X8_askOn_B37 m w (nI x) (nI p)) M (rowS I w r) m9 (nI (y + 1)) = X8_askOn_J123 (rowS I w r') m w (nI x) (nI p) (srch C x p j (y + 1) N).1 := fun r N => r8_search hC hh hw hp hx j (y + 1) M r N (by omega) (by omega)
    generalize hK : wl3 (X8_askOn_B37 m w (nI x) (nI p)) M = K at ih ⊢
    unfold X8_askOn_B37
    rw [e9, if_pos (show nI y < nI (cN C) by rw [nlt (by omega) (by omega)]; exact hyn), if_pos (show m9 = (-9 : Int32) from rfl)]
    unfold X8_askOn_J117
    by_cases hyx : y = x
    · rw [if_pos (show nI y = nI x by rw [hyx]), if_pos hyx, lt1s, ninc]
      exact ih r N h hwf
    · rw [if_neg (show ¬ nI y = nI x by rw [neq (by omega) (by omega)]; exact hyx), if_neg hyx]
      have es : f_X8_summarySays (rowS I w r) m w (nI y) (nI p) = some (bZ (con (pM (nP N y)) (cel C (nF N) p) (cK C))) := by
        unfold f_X8_summarySays
        rw [i_29, i_26, i_116, nmul, nadd, gv (by omega) (by omega), gv (by omega) (by omega), ncl (by omega), ncl (by omega), rowS_at, hpy.2.2.2.1, h.2.1, r8_isSaid hC (hh.row hw r) hwf.1 hp, bd1s, gdt (bZ_zb _)]
      rw [es, bd1s]
      cases hb : con (pM (nP N y)) (cel C (nF N) p) (cK C) with
      | false =>
        rw [if_pos bZf, if_neg (show ¬ false = true by decide), lt1s, ninc]
        exact ih r N h hwf
      | true =>
        rw [if_neg bZt, if_pos rfl, i_117, gv (by omega) (by omega), gv (by omega) (by omega), lt1s, ncl (by omega), rowS_at, rowS_s, h.2.2.1]
        have h1 := h.net (k := 117) (v := nRq N + 1) hn (by omega)
        rw [if_pos rfl, if_neg (by omega), if_neg (by omega), if_neg (by omega)] at h1
        have h1' : RnAt (uR r 117 (nRq N + 1)) C (nRqS N) := h1
        rw [r8_placeOf (h1'.1 y hyn) (hwf.shf hyn) (by omega) hp, bd1s]
        show ∃ r', _ ∧ (if plV (pl (pS (nP N y)) p (pN (nP N y))) = (-9 : Int32) then _ else _) = _
        cases hpl : pl (pS (nP N y)) p (pN (nP N y)) with
        | none =>
          rw [if_pos (show plV none = (-9 : Int32) from rfl), i_118, gv (by omega) (by omega), gv (by omega) (by omega), lt1s, ncl (by omega), rowS_at, rowS_s, uR_ne (by omega), h.2.2.2.1]
          have h2 := h1'.net (k := 118) (v := nFl N + 1) hn (by omega)
          rw [if_neg (by omega), if_pos rfl, if_neg (by omega), if_neg (by omega)] at h2
          have h2' : RnAt (uR (uR r 117 (nRq N + 1)) 118 (nFl N + 1)) C (nFlS (nRqS N)) := h2
          rw [lt1s, ninc]
          exact ih _ _ h2' hwf
        | some i =>
          have hi := (pl_some hpl).1
          rw [if_neg (show ¬ plV (some i) = (-9 : Int32) by show ¬ nI i = m9; rw [nI_m9 (by have := (hwf.shf hyn).1; have := (hwf.shf hyn).2.1; omega)]; exact id)]
          obtain ⟨r2, ⟨b1, b2⟩, b3⟩ := r8_freshen (I := I) (w := w) (h1'.1 y hyn) hi (by omega)
          have b3' : f_X8_freshen (rowS I w (uR r 117 (nRq N + 1))) w (nI y) (plV (some i)) = some (rowS I w r2) := b3
          have hq : pl (pS (nP (nRqS N) y)) p (pN (nP (nRqS N) y)) = some i := hpl
          rw [hq, b3', bd1s, lt1s]
          have h2 := h1'.px hn hyn b1 b2
          refine ⟨r2, h2, ?_⟩
          obtain ⟨M, rfl⟩ : ∃ M', M = M' + 1 := ⟨M - 1, by omega⟩
          rw [← hK, wl3_0]
          unfold X8_askOn_B37
          rw [e9, ninc]
          by_cases hl : y + 1 < cN C
          · rw [if_pos (show nI (y + 1) < nI (cN C) by rw [nlt (by omega) (by omega)]; exact hl), if_neg (show ¬ nI y = (-9 : Int32) by show ¬ nI y = m9; rw [nI_m9 (by omega)]; exact id)]
          · rw [if_neg (show ¬ nI (y + 1) < nI (cN C) by rw [nlt (by omega) (by omega)]; exact hl)]
/-- a request -/
theorem cme_wf {C : Cf} {N : Nt} {x p t : Nat} (hC : WfC C) (hp : p < 32) (hx : x < cN C) (ht : t + 6 < 1000000) (hw : WfN C t N) (hno : ∀ k, k < pN (nP N x) → pS (nP N x) k ≠ p) : WfN C (t + 6) (cme C x p N) := by
  have hR := hC.2.2.2.2.2 x hx
  have hsz := (hw.shf hx).1
  by_cases hlt : pN (nP N x) < cR C x
  · rw [cme, if_pos hlt]; exact (come_wf hC hp hx (by omega) hw hlt hno).mono (by omega)
  · rw [cme, if_neg hlt]
    have e1 : pN (nP (stP N x (aGo C (nF N) (pN (nP N x) - 1) (nP N x))) x) = pN (nP N x) - 1 := by rw [stP_eq]; rfl
    exact (come_wf hC hp hx (by omega) (go_wf (i := pN (nP N x) - 1) hC hx (by omega) hw (by omega)) (by omega) (go_no hno)).mono (by omega)
theorem r8_askOn {I : HI} {m w x p t : Nat} {C : Cf} {r : Nat → Int32} {N : Nt} (hC : WfC C) (hh : CfAt I m C) (hw : m + 5 ≤ w) (ht : t + 6 < 1000000) (h : RnAt r C N) (hwf : WfN C t N) (hx : x < cN C) (hp : p < 32) : ∃ r', RnAt r' C (ask C x p N).2 ∧ f_X8_askOn (rowS I w r) m w (nI x) (nI p) = some ((ask C x p N).1, rowS I w r') := by
  have hn := hC.2.2.2.2.1
  have hsh := hwf.shf hx
  unfold f_X8_askOn
  rw [r8_placeOf (h.1 x hx) hsh (by omega) hp, bd1s, ask_eq]
  cases hpl : pl (pS (nP N x)) p (pN (nP N x)) with
  | some i =>
    have hi := (pl_some hpl).1
    rw [if_neg (show ¬ plV (some i) = (-9 : Int32) by show ¬ nI i = m9; rw [nI_m9 (by have := hsh.1; have := hsh.2.1; omega)]; exact id)]
    obtain ⟨r2, ⟨b1, b2⟩, b3⟩ := r8_freshen (I := I) (w := w) (h.1 x hx) hi (by omega)
    have b3' : f_X8_freshen (rowS I w r) w (nI x) (plV (some i)) = some (rowS I w r2) := b3
    rw [b3', bd1s]
    have w2 : WfN C t (stP N x (aRen i (nP N x))) := WfN.px (t := t) (t' := t) (P := aRen i (nP N x)) hwf (by omega) (shf_fr hsh hi) (hwf.2 x hx).2
    obtain ⟨r3, c1, c2⟩ := r8_sendDue hC hh hw (h.px hn hx b1 b2) w2
    rw [c2, bd1s]
    exact ⟨r3, c1, rfl⟩
  | none =>
    rw [if_pos (show plV none = (-9 : Int32) from rfl)]
    obtain ⟨r1, a1, a2⟩ := r8_search hC hh hw hp hx (cN C) 0 5000 r N (by omega) (by omega) h hwf
    have a2' : wl3 (X8_askOn_B37 m w (nI x) (nI p)) 5000 (rowS I w r) (-9) 0 = X8_askOn_J123 (rowS I w r1) m w (nI x) (nI p) (srch C x p (cN C) 0 N).1 := a2
    rw [a2']
    have hno : ∀ k, k < pN (nP (aft C x p N) x) → pS (nP (aft C x p N) x) k ≠ p := by rw [aft_px]; exact pl_none hpl
    have fin : ∀ r4, RnAt r4 C (aft C x p N) → ∃ r', RnAt r' C (sdu C (cme C x p (aft C x p N)) (cN C)) ∧ (bd1 (f_X8_comeTo (rowS I w r4) m w (nI x) (nI p)) fun I_30 => bd1 (f_X8_sendDue I_30 m w) fun I_32 => some ((srch C x p (cN C) 0 N).1, I_32)) = some ((srch C x p (cN C) 0 N).1, rowS I w r') := by
      intro r4 h4
      obtain ⟨r5, ⟨b1, b2⟩, b3⟩ := r8_comeTo hC hh hw ht h4 (aft_wf hwf) hx hp hno
      rw [b3, bd1s]
      obtain ⟨r6, c1, c2⟩ := r8_sendDue hC hh hw b1 b2
      rw [c2, bd1s]
      exact ⟨r6, c1, rfl⟩
    unfold X8_askOn_J123 X8_askOn_J140
    rw [i_119, gv (by omega) (by omega), ncl (by omega), rowS_at, a1.2.2.2.2.1]
    have h1 := a1.net (k := 119) (v := nFt (srch C x p (cN C) 0 N).2 + 1) hn (by omega)
    rw [if_neg (by omega), if_neg (by omega), if_pos rfl, if_neg (by omega)] at h1
    have h0 := a1.net (k := 119) (v := nFt (srch C x p (cN C) 0 N).2 + 0) hn (by omega)
    rw [if_neg (by omega), if_neg (by omega), if_pos rfl, if_neg (by omega), Int32.add_zero] at h0
    by_cases h9 : (srch C x p (cN C) 0 N).1 = m9
    · have ea : aft C x p N = nFtS (srch C x p (cN C) 0 N).2 := if_pos h9
      rw [if_pos (show (srch C x p (cN C) 0 N).1 = (-9 : Int32) from h9), gv (by omega) (by omega), lt1s, rowS_s]
      exact fin _ (by rw [ea]; exact h1)
    · have ea : aft C x p N = (srch C x p (cN C) 0 N).2 := if_neg h9
      rw [if_neg (show ¬ (srch C x p (cN C) 0 N).1 = (-9 : Int32) from h9), gv (by omega) (by omega), lt1s, rowS_s, Int32.add_zero]
      exact fin _ (by rw [ea]; exact h0)
