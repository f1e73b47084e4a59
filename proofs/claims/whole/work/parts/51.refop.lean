/-! the reference: what changes one proxy of a row -/
theorem RxAt.cn {r : Nat → Int32} {x c : Nat} {P : Prx} {v : Int32} (h : RxAt r x P) (hc : c < 16) : RxAt (uR r (29 * x + 10 + c) (if pC P c = 7 then pC P c else pC P c + v)) x (pN P, pS P, bmp c v (pC P), P.2.2.2) := by
  obtain ⟨p0, p1, p2, p3, p4, p5, p6⟩ := h
  refine ⟨fun k hk => ?_, ?_, fun k hk => ?_, ?_, ?_, ?_, p6⟩
  · have hk' : k < pN P := hk
    rw [uR_ne (by omega)]; exact p0 k hk
  · rw [uR_ne (by omega)]; exact p1
  · show _ = bmp c v (pC P) k
    unfold bmp
    by_cases hkc : k = c
    · subst hkc
      rw [uR_eq, if_pos rfl]
    · rw [uR_ne (by omega), if_neg hkc]; exact p2 k hk
  · rw [uR_ne (by omega)]; exact p3
  · rw [uR_ne (by omega)]; exact p4
  · rw [uR_ne (by omega)]; exact p5
theorem r8_tally {I : HI} {m w x p fam : Nat} {C : Cf} {r : Nat → Int32} {P : Prx} {v : Int32} (hC : WfC C) (hh : CfAt I m C) (hw : m + 5 ≤ w) (h : RxAt r x P) (hf : r 116 = nI fam) (hfm : fam < cF C) (hx : x < 4) (hp : p < 32) : ∃ r', (RxAt r' x (pN P, pS P, tal C fam p v (pC P) (cK C), P.2.2.2) ∧ ROff r r' x) ∧ f_X8_tally (rowS I w r) m w (nI x) (nI p) v = some (rowS I w r') := by
  have hK := hC.2.1
  have hM := hC.1
  unfold f_X8_tally
  have key := wl2_inv (F := X8_tally_B3 m w (nI x) (nI p) v) (Post := fun o => ∃ r', (RxAt r' x (pN P, pS P, tal C fam p v (pC P) (cK C), P.2.2.2) ∧ ROff r r' x) ∧ o = rowS I w r') (Inv := fun i (I1 : HI) (z : Int32) => (∃ r', (RxAt r' x (pN P, pS P, tal C fam p v (pC P) i, P.2.2.2) ∧ ROff r r' x) ∧ I1 = rowS I w r') ∧ z = nI i) (m := cK C) ?_ ?_ (cK C) 0 5000 (rowS I w r) (nI 0) (by omega) (by omega) ⟨⟨r, ⟨h, ROff.rf⟩, rfl⟩, rfl⟩
  · obtain ⟨o, ⟨r', h1, rfl⟩, h2⟩ := key
    exact ⟨r', h1, h2⟩
  · rintro i I1 z hi ⟨⟨r1, ⟨h1, h2⟩, rfl⟩, rfl⟩
    have hh1 := hh.row hw r1
    have hcel := cel_lt hC fam p i
    have e1 : r1 116 = nI fam := by rw [h2 _ (by omega)]; exact hf
    have hc16 : cel C fam p i < 16 := by omega
    have e2 := h1.2.2.1 _ hc16
    refine Or.inl ⟨_, nI (i + 1), ⟨⟨_, ⟨h1.cn (v := v) hc16, h2.tr (ROff.u (by omega))⟩, rfl⟩, rfl⟩, fun k => ?_⟩
    unfold X8_tally_B3 X8_tally_J53
    rw [hh1.2.1, if_pos (by rw [nlt (by omega) (by omega)]; exact hi), i_116, gv (by omega) (by omega), ncl (by omega), rowS_at, e1, r8_hashOf hC hh1 hfm hp (by omega), bd1s, i_29, i_10, nmul, nadd, nadd, lt1s, gv (by omega) (by omega), gv (by omega) (by omega), ncl (by omega), e2]
    show _ = k (rowS I w (uR r1 (29 * x + 10 + cel C fam p i) (if tal C fam p v (pC P) i (cel C fam p i) = 7 then tal C fam p v (pC P) i (cel C fam p i) else tal C fam p v (pC P) i (cel C fam p i) + v))) (nI (i + 1))
    have e3 : pC (pN P, pS P, tal C fam p v (pC P) i, P.2.2.2) (cel C fam p i) = tal C fam p v (pC P) i (cel C fam p i) := rfl
    rw [e3]
    by_cases h7 : tal C fam p v (pC P) i (cel C fam p i) = 7
    · rw [if_pos h7, if_pos h7, gv (by omega) (by omega), lt1s, lt1s, rowS_s, ninc, Int32.add_zero]
    · rw [if_neg h7, if_neg h7, gv (by omega) (by omega), lt1s, lt1s, rowS_s, ninc]
  · rintro I1 z ⟨⟨r1, ⟨h1, h2⟩, rfl⟩, rfl⟩
    have hh1 := hh.row hw r1
    refine ⟨_, ⟨r1, ⟨h1, h2⟩, rfl⟩, fun k => ?_⟩
    unfold X8_tally_B3
    rw [hh1.2.1, if_neg (by rw [nlt (by omega) (by omega)]; omega)]
theorem r8_freshen {I : HI} {w x i : Nat} {r : Nat → Int32} {P : Prx} (h : RxAt r x P) (hi : i < pN P) (hx : x < 4) : ∃ r', (RxAt r' x (aRen i P) ∧ ROff r r' x) ∧ f_X8_freshen (rowS I w r) w (nI x) (nI i) = some (rowS I w r') := by
  obtain ⟨p0, p1, p2, p3, p4, p5, p6⟩ := h
  unfold f_X8_freshen
  rw [i_29, nmul, nadd, gv (by omega) (by omega), lt1s, ncl (by omega), rowS_at]
  refine ⟨uR (fun q => if 29 * x < q ∧ q ≤ 29 * x + i then r (q - 1) else r q) (29 * x) (r (29 * x + i)), ⟨⟨fun k hk => ?_, ?_, fun k hk => ?_, ?_, ?_, ?_, p6⟩, fun q hq => ?_⟩, ?_⟩
  · have hk' : k < pN P := hk
    show _ = nI (aFr i (pS P) k)
    unfold aFr
    by_cases hk0 : k = 0
    · subst hk0; rw [if_pos rfl]; exact (uR_eq _ _ _).trans (p0 i hi)
    · rw [uR_ne (by omega), if_neg hk0]
      by_cases hki : k ≤ i
      · rw [if_pos hki, if_pos (by omega), show 29 * x + k - 1 = 29 * x + (k - 1) by omega]; exact p0 _ (by omega)
      · rw [if_neg hki, if_neg (by omega)]; exact p0 _ (by omega)
  · rw [uR_ne (by omega), if_neg (by omega)]; exact p1
  · rw [uR_ne (by omega), if_neg (by omega)]; exact p2 k hk
  · rw [uR_ne (by omega), if_neg (by omega)]; exact p3
  · rw [uR_ne (by omega), if_neg (by omega)]; exact p4
  · rw [uR_ne (by omega), if_neg (by omega)]; exact p5
  · rw [uR_ne (by omega), if_neg (by omega)]
  · have key := wl2_inv (F := X8_freshen_B12 w (nI x) (r (29 * x + i))) (Post := fun o => o = rowS I w (uR (fun q => if 29 * x < q ∧ q ≤ 29 * x + i then r (q - 1) else r q) (29 * x) (r (29 * x + i)))) (Inv := fun j (I1 : HI) (z : Int32) => I1 = rowS I w (fun q => if 29 * x + (i - j) < q ∧ q ≤ 29 * x + i then r (q - 1) else r q) ∧ z = nI (i - j)) (m := i) ?_ ?_ i 0 5000 (rowS I w r) (nI i) (by omega) (by omega) ⟨?_, rfl⟩
    · obtain ⟨o, e, h⟩ := key
      rw [← e]; exact h
    · rintro j I1 z hj ⟨rfl, rfl⟩
      refine Or.inl ⟨_, _, ⟨rfl, rfl⟩, fun k => ?_⟩
      unfold X8_freshen_B12
      rw [if_pos (by rw [n0pos (by omega)]; omega), i_29, i_1, nmul, nadd, nsub (by omega), gv (by omega) (by omega), gv (by omega) (by omega), lt1s, ncl (by omega), ncl (by omega), rowS_at, rowS_s, lt1s]
      have e1 : nI (i - j) + (-1 : Int32) = nI (i - (j + 1)) := by
        show nI (i - j) + -nI 1 = _
        rw [ndec (by omega)]; rfl
      have e1' : nI (i - j) + -nI 1 = nI (i - (j + 1)) := e1
      rw [e1']
      congr 2
      funext q
      unfold uR
      dsimp only
      by_cases hq : q = 29 * x + (i - j)
      · rw [if_pos hq, if_neg (by omega), if_pos (by omega), hq]
      · rw [if_neg hq]
        by_cases h2 : 29 * x + (i - j) < q ∧ q ≤ 29 * x + i
        · rw [if_pos h2, if_pos (by omega)]
        · rw [if_neg h2, if_neg (by omega)]
    · rintro I1 z ⟨rfl, rfl⟩
      refine ⟨_, rfl, fun k => ?_⟩
      unfold X8_freshen_B12
      rw [if_neg (by rw [n0pos (by omega)]; omega), i_29, nmul, gv (by omega) (by omega), lt1s, ncl (by omega), rowS_s, Nat.sub_self]
      rfl
    · congr 1
      funext q
      rw [if_neg (by omega)]
theorem r8_filterOf {I : HI} {m w x t : Nat} {C : Cf} {r : Nat → Int32} {P : Prx} (hC : WfC C) (hh : CfAt I m C) (hw : m + 5 ≤ w) (h : RxAt r x P) (hc : Cnt (cM C) t (pC P)) (hx : x < 4) : f_X8_filterOf (rowS I w r) m w (nI x) = some (flt (pC P) 16) := by
  have hM := hC.1
  have hh1 := hh.row hw r
  have hz : ∀ j, cM C + j ≤ 16 → flt (pC P) (cM C + j) = flt (pC P) (cM C) := by
    intro j
    induction j with
    | zero => intro _; rfl
    | succ j ih =>
      intro hj
      rw [← Nat.add_assoc, flt, hc.2 _ (by omega) (by omega), if_neg (by decide)]
      exact ih (by omega)
  have hz16 := hz (16 - cM C) (by omega)
  rw [show cM C + (16 - cM C) = 16 by omega] at hz16
  unfold f_X8_filterOf
  have key := wl2_inv (F := X8_filterOf_B5 (rowS I w r) m w (nI x)) (Post := fun v => v = flt (pC P) (cM C)) (Inv := fun i (s z : Int32) => s = flt (pC P) i ∧ z = nI i) (m := cM C) ?_ ?_ (cM C) 0 5000 0 (nI 0) (by omega) (by omega) ⟨rfl, rfl⟩
  · obtain ⟨o, e, h⟩ := key
    rw [hz16, ← e]; exact h
  · rintro i s z hi ⟨rfl, rfl⟩
    refine Or.inl ⟨_, _, ⟨rfl, rfl⟩, fun k => ?_⟩
    unfold X8_filterOf_B5 X8_filterOf_J38
    rw [hh1.1, if_pos (by rw [nlt (by omega) (by omega)]; exact hi), i_29, i_10, nmul, nadd, nadd, gv (by omega) (by omega), ncl (by omega), rowS_at, h.2.2.1 i (by omega)]
    by_cases h0 : 0 < pC P i
    · rw [if_pos h0, lt1s, lt1s, ninc, flt, if_pos h0]
    · rw [if_neg h0, lt1s, lt1s, ninc, flt, if_neg h0, Int32.or_zero]
  · rintro s z ⟨rfl, rfl⟩
    refine ⟨_, rfl, fun k => ?_⟩
    unfold X8_filterOf_B5
    rw [hh1.1, if_neg (by rw [nlt (by omega) (by omega)]; omega)]
