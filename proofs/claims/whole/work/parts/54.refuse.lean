/-! the reference: a page is dropped; a family is used -/
theorem r8_dropOn {I : HI} {m w x i t : Nat} {C : Cf} {r : Nat → Int32} {N : Nt} (hC : WfC C) (hh : CfAt I m C) (hw : m + 5 ≤ w) (ht : t + 3 < 1000000) (h : RnAt r C N) (hwf : WfN C t N) (hx : x < cN C) (hi : i < pN (nP N x)) : ∃ r', RnAt r' C (sdu C (stP N x (aGo C (nF N) i (nP N x))) (cN C)) ∧ f_X8_dropOn (rowS I w r) m w (nI x) (nI i) = some (rowS I w r') := by
  have hn := hC.2.2.2.2.1
  unfold f_X8_dropOn
  obtain ⟨r1, ⟨a1, a2⟩, a3⟩ := r8_goOut hC hh hw h hwf hx hi
  rw [a3, bd1s]
  obtain ⟨r2, b1, b2⟩ := r8_sendDue hC hh hw (h.px hn hx a1 a2) (go_wf hC hx ht hwf hi)
  rw [b2, bd1s]
  exact ⟨r2, b1, rfl⟩
theorem r8_makeAnew {I : HI} {m w x fam : Nat} {C : Cf} {r : Nat → Int32} {P : Prx} (hC : WfC C) (hh : CfAt I m C) (hw : m + 5 ≤ w) (h : RxAt r x P) (hs : Shf (cR C x) (pN P) (pS P)) (hf : r 116 = nI fam) (hfm : fam < cF C) (hx : x < 4) : ∃ r', (RxAt r' x (aReb C fam P) ∧ ROff r r' x) ∧ f_X8_makeAnew (rowS I w r) m w (nI x) = some (rowS I w r') := by
  have h9 : pN P ≤ 9 := h.2.2.2.2.2.2
  unfold f_X8_makeAnew
  have key := wl2_inv (F := X8_makeAnew_B2 m w (nI x)) (Post := fun o => ∃ r', (RxAt r' x (aReb C fam P) ∧ ROff r r' x) ∧ o = rowS I w r') (Inv := fun i (I1 : HI) (z : Int32) => I1 = rowS I w (fun q => if 29 * x + 10 ≤ q ∧ q < 29 * x + 10 + i then 0 else r q) ∧ z = nI i) (m := 16) ?_ ?_ 16 0 5000 (rowS I w r) (nI 0) (by omega) (by omega) ⟨?_, rfl⟩
  · obtain ⟨o, ⟨r', h1, rfl⟩, h2⟩ := key
    exact ⟨r', h1, h2⟩
  · rintro i I1 z hi ⟨rfl, rfl⟩
    refine Or.inl ⟨_, nI (i + 1), ⟨rfl, rfl⟩, fun k => ?_⟩
    unfold X8_makeAnew_B2
    rw [if_pos (show nI i < (16 : Int32) by rw [i_16, nlt (by omega) (by omega)]; exact hi), i_29, i_10, nmul, nadd, nadd, gv (by omega) (by omega), lt1s, ncl (by omega), rowS_s, lt1s, ninc]
    congr 2
    funext q
    unfold uR
    by_cases hq : q = 29 * x + 10 + i
    · rw [if_pos hq, if_pos (by omega)]
    · rw [if_neg hq]
      dsimp only
      by_cases h2 : 29 * x + 10 ≤ q ∧ q < 29 * x + 10 + i
      · rw [if_pos h2, if_pos (by omega)]
      · rw [if_neg h2, if_neg (by omega)]
  · rintro I1 z ⟨rfl, rfl⟩
    obtain ⟨p0, p1, p2, p3, p4, p5, p6⟩ := h
    have h1 : RxAt (fun q => if 29 * x + 10 ≤ q ∧ q < 29 * x + 10 + 16 then 0 else r q) x (pN P, pS P, reb C fam P 0, P.2.2.2) := by
      refine ⟨fun k hk => ?_, ?_, fun c hc => ?_, ?_, ?_, ?_, p6⟩
      · have hk' : k < pN P := hk
        dsimp only
        rw [if_neg (by omega)]; exact p0 k hk
      · dsimp only
        rw [if_neg (by omega)]; exact p1
      · dsimp only
        rw [if_pos (by omega)]; rfl
      · dsimp only
        rw [if_neg (by omega)]; exact p3
      · dsimp only
        rw [if_neg (by omega)]; exact p4
      · dsimp only
        rw [if_neg (by omega)]; exact p5
    have o1 : ROff r (fun q => if 29 * x + 10 ≤ q ∧ q < 29 * x + 10 + 16 then 0 else r q) x := fun q hq => if_neg (by omega)
    generalize (fun q => if 29 * x + 10 ≤ q ∧ q < 29 * x + 10 + 16 then 0 else r q) = r1 at h1 o1
    have key := wl2_inv (F := X8_makeAnew_B38 m w (nI x)) (Post := fun o => ∃ r', (RxAt r' x (aReb C fam P) ∧ ROff r r' x) ∧ o = rowS I w r') (Inv := fun i (I1 : HI) (z : Int32) => (∃ r', (RxAt r' x (pN P, pS P, reb C fam P i, P.2.2.2) ∧ ROff r r' x) ∧ I1 = rowS I w r') ∧ (i < pN P → z = nI (pN P - 1 - i)) ∧ (pN P ≤ i → z = -1)) (m := pN P) ?_ ?_ (pN P) 0 5000 (rowS I w r1) (nI (pN P) - 1) (by omega) (by omega) ⟨⟨r1, ⟨h1, o1⟩, rfl⟩, fun h0 => ?_, fun h0 => ?_⟩
    · obtain ⟨o, h2, h3⟩ := key
      refine ⟨o, h2, fun k => ?_⟩
      unfold X8_makeAnew_B2
      have e1 : r1 (29 * x + 9) = nI (pN P) := h1.2.1
      rw [if_neg (show ¬ nI 16 < (16 : Int32) by decide), i_29, i_9, nmul, nadd, gv (by omega) (by omega), lt1s, ncl (by omega), rowS_at, e1]
      exact h3
    · rintro i I2 z hi ⟨⟨r2, ⟨b1, b2⟩, rfl⟩, h3, -⟩
      rw [h3 hi]
      have f2 : r2 116 = nI fam := by rw [b2 _ (by omega)]; exact hf
      obtain ⟨r3, ⟨c1, c2⟩, c3⟩ := r8_tally (v := 1) hC hh hw b1 f2 hfm hx (hs.2.2.1 (pN P - 1 - i) (by omega))
      refine Or.inl ⟨_, nI (pN P - 1 - i) + (-1 : Int32), ⟨⟨r3, ⟨c1, b2.tr c2⟩, rfl⟩, fun h4 => ?_, fun h4 => ?_⟩, fun k => ?_⟩
      · show nI (pN P - 1 - i) + -nI 1 = _
        rw [ndec (by omega)]
        congr 1
      · rw [show pN P - 1 - i = 0 by omega]; rfl
      · unfold X8_makeAnew_B38
        have e2 : r2 (29 * x + (pN P - 1 - i)) = nI (pS P (pN P - 1 - i)) := b1.1 _ (show pN P - 1 - i < pN P by omega)
        rw [if_neg (nI_pos (by omega)), i_29, nmul, nadd, gv (by omega) (by omega), ncl (by omega), rowS_at, e2, c3, bd1s, lt1s]
    · rintro I2 z ⟨⟨r2, ⟨b1, b2⟩, rfl⟩, -, h3⟩
      rw [h3 (by omega)]
      refine ⟨_, ⟨r2, ⟨b1, b2⟩, rfl⟩, fun k => ?_⟩
      unfold X8_makeAnew_B38
      rw [if_pos (by decide)]
    · show nI (pN P) - nI 1 = _
      rw [nsub (by omega)]
      rfl
    · rw [show pN P = 0 by omega]; rfl
  · congr 1
    funext q
    rw [if_neg (by omega)]
/-- first all shelves, then all summaries: the same -/
def mkA (C : Cf) (N : Nt) : Nat → Nt
  | 0 => N
  | x + 1 => stP (mkA C N x) x (aReb C (nF N) (nP (mkA C N x) x))
def snA (C : Cf) (N : Nt) : Nat → Nt
  | 0 => N
  | x + 1 => snd1 C x (snA C N x)
def msA (C : Cf) (v : Int32) : Nat → Int32
  | 0 => v
  | x + 1 => msA C v x + (nI (cN C) - nI 1)
theorem mkA_eq (C : Cf) (N : Nt) : ∀ n, mkA C N n = ((fun y => if y < n then aReb C (nF N) (nP N y) else nP N y), N.2)
  | 0 => by
    show N = _
    have e : (fun y => if y < 0 then aReb C (nF N) (nP N y) else nP N y) = nP N := by
      funext y; rw [if_neg (by omega)]
    rw [e]
  | n + 1 => by
    rw [mkA, mkA_eq C N n]
    show ((fun y => if y = n then aReb C (nF N) (if n < n then aReb C (nF N) (nP N n) else nP N n) else if y < n then aReb C (nF N) (nP N y) else nP N y), N.2) = _
    rw [if_neg (by omega : ¬ n < n)]
    congr 1
    funext y
    by_cases hy : y = n
    · rw [if_pos hy, if_pos (by omega), hy]
    · rw [if_neg hy]
      by_cases hy2 : y < n
      · rw [if_pos hy2, if_pos (by omega)]
      · rw [if_neg hy2, if_neg (by omega)]
theorem snA_eq (C : Cf) (N : Nt) : ∀ n, snA C N n = ((fun y => if y < n then aSnd (nP N y) else nP N y), nF N, nRq N, nFl N, nFt N, msA C (nMs N) n)
  | 0 => by
    show N = _
    have e : (fun y => if y < 0 then aSnd (nP N y) else nP N y) = nP N := by
      funext y; rw [if_neg (by omega)]
    rw [e]; rfl
  | n + 1 => by
    rw [snA, snA_eq C N n]
    show ((fun y => if y = n then aSnd (if n < n then aSnd (nP N n) else nP N n) else if y < n then aSnd (nP N y) else nP N y), nF N, nRq N, nFl N, nFt N, msA C (nMs N) n + (nI (cN C) - nI 1)) = _
    rw [if_neg (by omega : ¬ n < n)]
    congr 1
    funext y
    by_cases hy : y = n
    · rw [if_pos hy, if_pos (by omega), hy]
    · rw [if_neg hy]
      by_cases hy2 : y < n
      · rw [if_pos hy2, if_pos (by omega)]
      · rw [if_neg hy2, if_neg (by omega)]
theorem adp_eq (C : Cf) (N : Nt) : ∀ n, adp C N n = ((fun y => if y < n then aSnd (aReb C (nF N) (nP N y)) else nP N y), nF N, nRq N, nFl N, nFt N, msA C (nMs N) n)
  | 0 => by
    show N = _
    have e : (fun y => if y < 0 then aSnd (aReb C (nF N) (nP N y)) else nP N y) = nP N := by
      funext y; rw [if_neg (by omega)]
    rw [e]; rfl
  | n + 1 => by
    rw [adp, adp_eq C N n]
    show ((fun y => if y = n then aSnd (if n = n then aReb C (nF N) (if n < n then aSnd (aReb C (nF N) (nP N n)) else nP N n) else if n < n then aSnd (aReb C (nF N) (nP N n)) else nP N n) else if y = n then aReb C (nF N) (if n < n then aSnd (aReb C (nF N) (nP N n)) else nP N n) else if y < n then aSnd (aReb C (nF N) (nP N y)) else nP N y), nF N, nRq N, nFl N, nFt N, msA C (nMs N) n + (nI (cN C) - nI 1)) = _
    rw [if_neg (by omega : ¬ n < n), if_pos (rfl : n = n)]
    congr 1
    funext y
    by_cases hy : y = n
    · rw [if_pos hy, if_pos (by omega), hy]
    · rw [if_neg hy, if_neg hy]
      by_cases hy2 : y < n
      · rw [if_pos hy2, if_pos (by omega)]
      · rw [if_neg hy2, if_neg (by omega)]
theorem adp_two (C : Cf) (N : Nt) (n : Nat) : snA C (mkA C N n) n = adp C N n := by
  rw [snA_eq, mkA_eq, adp_eq]
  show ((fun y => if y < n then aSnd (if y < n then aReb C (nF N) (nP N y) else nP N y) else if y < n then aReb C (nF N) (nP N y) else nP N y), nF N, nRq N, nFl N, nFt N, msA C (nMs N) n) = _
  congr 1
  funext y
  by_cases hy : y < n
  · rw [if_pos hy, if_pos hy, if_pos hy]
  · rw [if_neg hy, if_neg hy, if_neg hy]
