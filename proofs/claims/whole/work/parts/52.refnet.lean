/-! the reference: a page goes, a page comes, a summary is sent -/
theorem r8_goOut {I : HI} {m w x i : Nat} {C : Cf} {r : Nat → Int32} {N : Nt} {t : Nat} (hC : WfC C) (hh : CfAt I m C) (hw : m + 5 ≤ w) (h : RnAt r C N) (hwf : WfN C t N) (hx : x < cN C) (hi : i < pN (nP N x)) : ∃ r', (RxAt r' x (aGo C (nF N) i (nP N x)) ∧ ROff r r' x) ∧ f_X8_goOut (rowS I w r) m w (nI x) (nI i) = some (rowS I w r') := by
  have hn := hC.2.2.2.2.1
  have hpx := h.1 x hx
  have hsh := hwf.shf hx
  have hx4 : x < 4 := by omega
  unfold f_X8_goOut
  have h9 : pN (nP N x) ≤ 9 := hpx.2.2.2.2.2.2
  rw [i_29, nmul, nadd, gv (by omega) (by omega), ncl (by omega), rowS_at, hpx.1 i hi]
  obtain ⟨r1, ⟨b1, b2⟩, b3⟩ := r8_tally (v := -1) hC hh hw hpx h.2.1 hwf.1 hx4 (hsh.2.2.1 i hi)
  rw [b3, bd1s, i_9, nadd, gv (by omega) (by omega), gv (by omega) (by omega), lt1s, ncl (by omega), rowS_at, rowS_s]
  obtain ⟨p0, p1, p2, p3, p4, p5, p6⟩ := b1
  have p1' : r1 (29 * x + 9) = nI (pN (nP N x)) := p1
  rw [p1', i_1, nsub (by omega)]
  have key := wl2_inv (F := X8_goOut_B31 w (nI x)) (Post := fun o => o = rowS I w (uR (fun q => if q = 29 * x + 9 then nI (pN (nP N x) - 1) else if 29 * x + i ≤ q ∧ q < 29 * x + (pN (nP N x) - 1) then r1 (q + 1) else r1 q) (29 * x + 27) (r1 (29 * x + 27) + nI 1))) (Inv := fun j (I1 : HI) (z : Int32) => I1 = rowS I w (fun q => if q = 29 * x + 9 then nI (pN (nP N x) - 1) else if 29 * x + i ≤ q ∧ q < 29 * x + (i + j) then r1 (q + 1) else r1 q) ∧ z = nI (i + j)) (m := pN (nP N x) - 1 - i) ?_ ?_ (pN (nP N x) - 1 - i) 0 5000 (rowS I w (uR r1 (29 * x + 9) (nI (pN (nP N x) - 1)))) (nI i) (by omega) (by omega) ⟨?_, rfl⟩
  · obtain ⟨o, rfl, h⟩ := key
    refine ⟨_, ⟨⟨fun k hk => ?_, ?_, fun k hk => ?_, ?_, ?_, ?_, ?_⟩, b2.tr fun q hq => ?_⟩, h⟩
    · have hk' : k < pN (nP N x) - 1 := hk
      show _ = nI (aDel i (pS (nP N x)) k)
      unfold aDel
      rw [uR_ne (by omega), if_neg (by omega)]
      by_cases hki : k < i
      · rw [if_pos hki, if_neg (by omega)]; exact p0 k (show k < pN (nP N x) by omega)
      · rw [if_neg hki, if_pos (by omega)]; exact p0 (k + 1) (show k + 1 < pN (nP N x) by omega)
    · rw [uR_ne (by omega), if_pos rfl]; rfl
    · rw [uR_ne (by omega), if_neg (by omega), if_neg (by omega)]; exact p2 k hk
    · rw [uR_ne (by omega), if_neg (by omega), if_neg (by omega)]; exact p3
    · rw [uR_eq, p4]; rfl
    · rw [uR_ne (by omega), if_neg (by omega), if_neg (by omega)]; exact p5
    · show pN (nP N x) - 1 ≤ 9; omega
    · rw [uR_ne (by omega), if_neg (by omega), if_neg (by omega)]
  · rintro j I1 z hj ⟨rfl, rfl⟩
    refine Or.inl ⟨_, _, ⟨rfl, rfl⟩, fun k => ?_⟩
    unfold X8_goOut_B31
    rw [i_29, i_9, i_1, nmul, nadd, gv (by omega) (by omega), ncl (by omega), rowS_at, if_pos (by rw [if_pos rfl, nlt (by omega) (by omega)]; omega), nadd, nadd, gv (by omega) (by omega), gv (by omega) (by omega), lt1s, ncl (by omega), ncl (by omega), rowS_s, lt1s, nadd]
    congr 2
    funext q
    unfold uR
    by_cases hq : q = 29 * x + (i + j)
    · rw [if_pos hq, if_neg (by omega), if_neg (by omega), if_neg (by omega), if_pos (by omega), hq]
    · rw [if_neg hq]
      dsimp only
      by_cases h9q : q = 29 * x + 9
      · rw [if_pos h9q, if_pos h9q]
      · rw [if_neg h9q, if_neg h9q]
        by_cases h2 : 29 * x + i ≤ q ∧ q < 29 * x + (i + j)
        · rw [if_pos h2, if_pos (by omega)]
        · rw [if_neg h2, if_neg (by omega)]
  · rintro I1 z ⟨rfl, rfl⟩
    refine ⟨_, rfl, fun k => ?_⟩
    unfold X8_goOut_B31
    rw [i_29, i_9, i_27, nmul, nadd, gv (by omega) (by omega), ncl (by omega), rowS_at, if_neg (by rw [if_pos rfl, nlt (by omega) (by omega)]; omega), nadd, gv (by omega) (by omega), gv (by omega) (by omega), lt1s, ncl (by omega), rowS_s, if_neg (by omega), if_neg (by omega), show i + (pN (nP N x) - 1 - i) = pN (nP N x) - 1 by omega]
    rfl
  · congr 1
    funext q
    unfold uR
    by_cases h9q : q = 29 * x + 9
    · rw [if_pos h9q, if_pos h9q]
    · rw [if_neg h9q, if_neg h9q, if_neg (by omega)]
theorem RxAt.u {r : Nat → Int32} {x k : Nat} {P : Prx} {v : Int32} (h : RxAt r x P) (hk : 29 * x + 26 ≤ k) (hk2 : k < 29 * x + 29) : RxAt (uR r k v) x (pN P, pS P, pC P, if k = 29 * x + 26 then v else pM P, if k = 29 * x + 27 then v else pH P, if k = 29 * x + 28 then v else pL P) := by
  obtain ⟨p0, p1, p2, p3, p4, p5, p6⟩ := h
  have e : ∀ q, uR r k v q = if q = k then v else r q := fun q => rfl
  refine ⟨fun j hj => ?_, ?_, fun c hc => ?_, ?_, ?_, ?_, p6⟩
  · have hj' : j < pN P := hj
    rw [uR_ne (by omega)]; exact p0 j hj
  · rw [uR_ne (by omega)]; exact p1
  · rw [uR_ne (by omega)]; exact p2 c hc
  · rw [e]
    by_cases hq : k = 29 * x + 26
    · rw [if_pos hq.symm]; exact (if_pos hq).symm
    · rw [if_neg (fun h => hq h.symm), p3]; exact (if_neg hq).symm
  · rw [e]
    by_cases hq : k = 29 * x + 27
    · rw [if_pos hq.symm]; exact (if_pos hq).symm
    · rw [if_neg (fun h => hq h.symm), p4]; exact (if_neg hq).symm
  · rw [e]
    by_cases hq : k = 29 * x + 28
    · rw [if_pos hq.symm]; exact (if_pos hq).symm
    · rw [if_neg (fun h => hq h.symm), p5]; exact (if_neg hq).symm
theorem RxAt.kept {r r' : Nat → Int32} {y : Nat} {P : Prx} (h : RxAt r y P) (ho : ∀ k, 29 * y ≤ k → k < 29 * y + 29 → r' k = r k) : RxAt r' y P := by
  obtain ⟨p0, p1, p2, p3, p4, p5, p6⟩ := h
  exact ⟨fun k hk => by rw [ho _ (by omega) (by omega)]; exact p0 k hk, by rw [ho _ (by omega) (by omega)]; exact p1, fun c hc => by rw [ho _ (by omega) (by omega)]; exact p2 c hc, by rw [ho _ (by omega) (by omega)]; exact p3, by rw [ho _ (by omega) (by omega)]; exact p4, by rw [ho _ (by omega) (by omega)]; exact p5, p6⟩
theorem RnAt.net {r : Nat → Int32} {k : Nat} {C : Cf} {N : Nt} {v : Int32} (hn : cN C ≤ 4) (h : RnAt r C N) (hk : 117 ≤ k) : RnAt (uR r k v) C (nP N, nF N, if k = 117 then v else nRq N, if k = 118 then v else nFl N, if k = 119 then v else nFt N, if k = 120 then v else nMs N) := by
  obtain ⟨g, a, b, c, d, e⟩ := h
  have e0 : ∀ q, uR r k v q = if q = k then v else r q := fun q => rfl
  refine ⟨fun y hy => (g y hy).kept fun q h1 h2 => uR_ne (by omega), ?_, ?_, ?_, ?_, ?_⟩
  · rw [uR_ne (by omega)]; exact a
  · rw [e0]
    by_cases hq : k = 117
    · rw [if_pos hq.symm]; exact (if_pos hq).symm
    · rw [if_neg (fun h => hq h.symm), b]; exact (if_neg hq).symm
  · rw [e0]
    by_cases hq : k = 118
    · rw [if_pos hq.symm]; exact (if_pos hq).symm
    · rw [if_neg (fun h => hq h.symm), c]; exact (if_neg hq).symm
  · rw [e0]
    by_cases hq : k = 119
    · rw [if_pos hq.symm]; exact (if_pos hq).symm
    · rw [if_neg (fun h => hq h.symm), d]; exact (if_neg hq).symm
  · rw [e0]
    by_cases hq : k = 120
    · rw [if_pos hq.symm]; exact (if_pos hq).symm
    · rw [if_neg (fun h => hq h.symm), e]; exact (if_neg hq).symm
theorem r8_sendOn {I : HI} {m w x t : Nat} {C : Cf} {r : Nat → Int32} {N : Nt} (hC : WfC C) (hh : CfAt I m C) (hw : m + 5 ≤ w) (h : RnAt r C N) (hwf : WfN C t N) (hx : x < cN C) : ∃ r', RnAt r' C (snd1 C x N) ∧ f_X8_sendOn (rowS I w r) m w (nI x) = some (rowS I w r') := by
  have hn := hC.2.2.2.2.1
  have hpx := h.1 x hx
  have hx4 : x < 4 := by omega
  unfold f_X8_sendOn
  have h1 := hpx.u (k := 29 * x + 26) (v := flt (pC (nP N x)) 16) (by omega) (by omega)
  rw [if_pos rfl, if_neg (by omega), if_neg (by omega)] at h1
  have h2 := h1.u (k := 29 * x + 27) (v := 0) (by omega) (by omega)
  rw [if_neg (by omega), if_pos rfl, if_neg (by omega)] at h2
  have h3 : RnAt _ C (stP N x (aSnd (nP N x))) := h.px hn hx h2 ((ROff.u (by omega)).tr (ROff.u (by omega)))
  have h4 := h3.net (k := 120) (v := nMs N + (nI (cN C) - nI 1)) hn (by omega)
  rw [if_neg (by omega), if_neg (by omega), if_neg (by omega), if_pos rfl] at h4
  refine ⟨_, h4, ?_⟩
  have e5 := h3.2.2.2.2.2
  have e9 : ∀ q, rowS I w q m 9 = nI (cN C) := fun q => (hh.row hw q).2.2.2.1
  rw [r8_filterOf hC hh hw hpx (hwf.2 x hx).2 hx4, bd1s, i_29, i_26, i_27, i_120, nmul, nadd, nadd, gv (by omega) (by omega), lt1s, ncl (by omega), rowS_s, gv (by omega) (by omega), lt1s, ncl (by omega), rowS_s, gv (by omega) (by omega), gv (by omega) (by omega), lt1s, ncl (by omega), rowS_s, rowS_at, e9]
  have e5' : uR (uR r (29 * x + 26) (flt (pC (nP N x)) 16)) (29 * x + 27) 0 120 = nMs N := e5
  rw [e5']
  rfl
theorem r8_sendDue {I : HI} {m w t : Nat} {C : Cf} {r : Nat → Int32} {N : Nt} (hC : WfC C) (hh : CfAt I m C) (hw : m + 5 ≤ w) (h : RnAt r C N) (hwf : WfN C t N) : ∃ r', RnAt r' C (sdu C N (cN C)) ∧ f_X8_sendDue (rowS I w r) m w = some (rowS I w r') := by
  have hn := hC.2.2.2.2.1
  unfold f_X8_sendDue
  have key := wl2_inv (F := X8_sendDue_B2 m w) (Post := fun o => ∃ r', RnAt r' C (sdu C N (cN C)) ∧ o = rowS I w r') (Inv := fun i (I1 : HI) (z : Int32) => (∃ r', RnAt r' C (sdu C N i) ∧ I1 = rowS I w r') ∧ z = nI i) (m := cN C) ?_ ?_ (cN C) 0 5000 (rowS I w r) (nI 0) (by omega) (by omega) ⟨⟨r, h, rfl⟩, rfl⟩
  · obtain ⟨o, ⟨r', h1, rfl⟩, h2⟩ := key
    exact ⟨r', h1, h2⟩
  · rintro i I1 z hi ⟨⟨r1, h1, rfl⟩, rfl⟩
    have hp := h1.1 i hi
    have e9 : ∀ q, rowS I w q m 9 = nI (cN C) := fun q => (hh.row hw q).2.2.2.1
    by_cases hlt : pH (nP (sdu C N i) i) < pL (nP (sdu C N i) i)
    · refine Or.inl ⟨_, nI (i + 1), ⟨⟨r1, ?_, rfl⟩, rfl⟩, fun k => ?_⟩
      · rw [sdu, if_pos hlt]; exact h1
      · unfold X8_sendDue_B2 X8_sendDue_J37
        rw [e9, if_pos (by rw [nlt (by omega) (by omega)]; exact hi), i_29, i_27, i_28, nmul, nadd, nadd, gv (by omega) (by omega), gv (by omega) (by omega), ncl (by omega), ncl (by omega), rowS_at, hp.2.2.2.2.1, hp.2.2.2.2.2.1, if_pos hlt, lt1s, ninc]
    · obtain ⟨r2, b1, b2⟩ := r8_sendOn hC hh hw h1 (hwf.sdu i) hi
      refine Or.inl ⟨_, nI (i + 1), ⟨⟨r2, ?_, rfl⟩, rfl⟩, fun k => ?_⟩
      · rw [sdu, if_neg hlt]; exact b1
      · unfold X8_sendDue_B2 X8_sendDue_J37
        rw [e9, if_pos (by rw [nlt (by omega) (by omega)]; exact hi), i_29, i_27, i_28, nmul, nadd, nadd, gv (by omega) (by omega), gv (by omega) (by omega), ncl (by omega), ncl (by omega), rowS_at, hp.2.2.2.2.1, hp.2.2.2.2.2.1, if_neg hlt, b2, bd1s, lt1s, ninc]
  · rintro I1 z ⟨⟨r1, h1, rfl⟩, rfl⟩
    refine ⟨_, ⟨r1, h1, rfl⟩, fun k => ?_⟩
    unfold X8_sendDue_B2
    have e9 : ∀ q, rowS I w q m 9 = nI (cN C) := fun q => (hh.row hw q).2.2.2.1
    rw [e9, if_neg (by rw [nlt (by omega) (by omega)]; omega)]
