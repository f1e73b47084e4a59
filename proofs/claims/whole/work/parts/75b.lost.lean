/-! lost, on both sides -/
/-- the first proxy that is asked, of j from y on: whether it has the page -/
def svB (C : Cf) (N : Nt) (x p g : Nat) : Nat → Nat → Option Bool
  | 0, _ => none
  | j + 1, y => if y = x then svB C N x p g j (y + 1) else if con (if bit (nI g) y = true then pM (nP N y) else flt (pC (nP N y)) 16) (cel C (nF N) p) (cK C) = true then some (onS (nP N y) p) else svB C N x p g j (y + 1)
def hld (N : Nt) (p n : Nat) : Nat := cntB (fun y => onS (nP N y) p) n
def lOK (C : Cf) (N : Nt) (x p g : Nat) : Bool := match svB C N x p g (cN C) 0 with
  | some b => b
  | none => decide (hld N p (cN C) = 0)
theorem x1_holders {I : HI} {n p t : Nat} {C : Cf} {N : Nt} (hC : WfC C) (h : NtAt I n C N) (hw : WfN C t N) (hp : p < 32) : f_X1_holders I n (nI p) = some (nI (hld N p (cN C))) := by
  have hn := hC.2.2.2.2.1
  unfold f_X1_holders hld
  refine wl2_to (F := X1_holders_B4 I n (nI p)) (fun i => nI (cntB (fun y => onS (nP N y) p) i)) (fun i => nI i) (m := cN C) (fun i k hi => ?_) (fun k => ?_) (cN C) 0 5000 (by omega) (by omega)
  · have e : f_X4_has I (n + 4 + 1 + 3 * i) (nI p) = some (bZ (onS (nP N i) p)) := x4_has (h.2.2.2.2.2.2 i hi) (hw.shf hi) hp
    unfold X1_holders_B4 X1_holders_J36
    rw [h.2.1, if_pos (show nI i < nI (cN C) by rw [nlt (by omega) (by omega)]; exact hi), x1_proxyAt hn h hi, bd1s, mNs, e, bd1s, cntB]
    cases onS (nP N i) p with
    | false => rw [if_pos bZf, lt1s, ninc, if_neg (by decide)]; rfl
    | true => rw [if_neg bZt, lt1s, ninc, lt1s, ninc, if_pos rfl]
  · unfold X1_holders_B4
    rw [h.2.1, if_neg (show ¬ nI (cN C) < nI (cN C) by rw [nlt (by omega) (by omega)]; omega)]
theorem hld_le (N : Nt) (p n : Nat) : hld N p n ≤ n := cnt_le _ _
theorem bZ1 (b : Bool) : (bZ b = 1) = (b = true) := by cases b <;> decide
theorem x1_servesL {I : HI} {n x p g t : Nat} {C : Cf} {N : Nt} (hC : WfC C) (h : NtAt I n C N) (hw : WfN C t N) (hp : p < 32) (hx : x < cN C) : ∀ (j y M : Nat), y + j = cN C → j < M → wl1 (X1_servesWell_B3 I n (nI x) (nI p) (nI g)) M (nI y) = some (bZ (match svB C N x p g j y with
    | some b => b
    | none => decide (hld N p (cN C) = 0)))
  | 0, y, M, hy, hM => by
    obtain ⟨M, rfl⟩ : ∃ K, M = K + 1 := ⟨M - 1, by omega⟩
    have hn := hC.2.2.2.2.1
    have hl := hld_le N p (cN C)
    rw [wl1_0]
    unfold X1_servesWell_B3
    rw [h.2.1, if_neg (show ¬ nI y < nI (cN C) by rw [nlt (by omega) (by omega)]; omega), x1_holders hC h hw hp, bd1s]
    show _ = some (bZ (decide (hld N p (cN C) = 0)))
    by_cases h0 : hld N p (cN C) = 0
    · rw [if_pos (show nI (hld N p (cN C)) = 0 by rw [h0]; rfl), decide_eq_true h0]; rfl
    · rw [if_neg (show ¬ nI (hld N p (cN C)) = 0 by rw [n0eq (by omega)]; exact h0), decide_eq_false h0]; rfl
  | j + 1, y, M, hy, hM => by
    obtain ⟨M, rfl⟩ : ∃ K, M = K + 1 := ⟨M - 1, by omega⟩
    have hn := hC.2.2.2.2.1
    have hyn : y < cN C := by omega
    have ih := x1_servesL (g := g) hC h hw hp hx j (y + 1) M (by omega) (by omega)
    have eh : f_X4_has I (n + 4 + 1 + 3 * y) (nI p) = some (bZ (onS (nP N y) p)) := x4_has (h.2.2.2.2.2.2 y hyn) (hw.shf hyn) hp
    rw [wl1_0]
    generalize wl1 (X1_servesWell_B3 I n (nI x) (nI p) (nI g)) M = K at ih ⊢
    unfold X1_servesWell_B3 X1_servesWell_J35b X1_servesWell_J67
    rw [h.2.1, if_pos (show nI y < nI (cN C) by rw [nlt (by omega) (by omega)]; exact hyn), x1_proxyAt hn h hyn, bd1s, mNs, bit_bZ, svB]
    by_cases hyx : y = x
    · rw [if_pos (show nI y = nI x by rw [hyx]), if_pos hyx, if_pos (show nI y = nI x by rw [hyx]), ite_self, lt1s, ninc, ih]
    · rw [if_neg (show ¬ nI y = nI x by rw [neq (by omega) (by omega)]; exact hyx), if_neg hyx]
      have fin : ∀ s : Int32, (∀ v : Int32, bd1 (some (bZ (con s (cel C (nF N) p) (cK C)))) (fun r_13 => if r_13 = 0 then lt1 (nI y + 1) fun x_19 => K x_19 else bd1 (f_X4_has I (n + 4 + 1 + 3 * y) (nI p)) fun r_16 => gd (zb r_16) (some r_16)) = some (bZ (match (if con s (cel C (nF N) p) (cK C) = true then some (onS (nP N y) p) else svB C N x p g j (y + 1)) with
          | some b => b
          | none => decide (hld N p (cN C) = 0)))) := by
        intro s v
        rw [bd1s]
        cases con s (cel C (nF N) p) (cK C) with
        | false => rw [if_pos bZf, lt1s, ninc, ih, if_neg (show ¬ false = true by decide)]
        | true => rw [if_neg bZt, eh, bd1s, gdt (bZ_zb _), if_pos rfl]
      cases hb : bit (nI g) y with
      | true =>
        rw [if_pos (show bZ true = 1 from rfl), x1_isSo1 hC h hw hyn hp, if_pos rfl]
        exact fin (pM (nP N y)) 0
      | false =>
        rw [if_neg (show ¬ bZ false = 1 by decide), if_neg (show ¬ nI y = nI x by rw [neq (by omega) (by omega)]; exact hyx), x1_isSo2 hC h hw hyn hp, if_neg (show ¬ false = true by decide)]
        exact fin (flt (pC (nP N y)) 16) 0
theorem x1_serves {I : HI} {n x p g t : Nat} {C : Cf} {N : Nt} (hC : WfC C) (h : NtAt I n C N) (hw : WfN C t N) (hp : p < 32) (hx : x < cN C) : f_X1_servesWell I n (nI x) (nI p) (nI g) = some (bZ (lOK C N x p g)) := by
  have hn := hC.2.2.2.2.1
  exact x1_servesL hC h hw hp hx (cN C) 0 5000 (by omega) (by omega)
/-- some summaries are sent -/
def snW (C : Cf) (N : Nt) (g : Nat) : Nat → Nt
  | 0 => N
  | i + 1 => if bit (nI g) i = true then snW C N g i else snd1 C i (snW C N g i)
theorem snW_wf {C : Cf} {N : Nt} {g t : Nat} (h : WfN C t N) : ∀ i, WfN C t (snW C N g i)
  | 0 => h
  | i + 1 => by
    rw [snW]
    by_cases hb : bit (nI g) i = true
    · rw [if_pos hb]; exact snW_wf h i
    · rw [if_neg hb]; exact (snW_wf h i).snd
theorem snW_eq (C : Cf) (N : Nt) (g : Nat) : ∀ i, nF (snW C N g i) = nF N ∧ nFl (snW C N g i) = nFl N ∧ ∀ y, nP (snW C N g i) y = if y < i ∧ ¬ bit (nI g) y = true then aSnd (nP N y) else nP N y
  | 0 => ⟨rfl, rfl, fun y => by rw [if_neg (fun q => Nat.not_lt_zero _ q.1)]; rfl⟩
  | i + 1 => by
    obtain ⟨h1, h2, h3⟩ := snW_eq C N g i
    rw [snW]
    by_cases hb : bit (nI g) i = true
    · rw [if_pos hb]
      refine ⟨h1, h2, fun y => ?_⟩
      rw [h3 y]
      by_cases hy : y < i ∧ ¬ bit (nI g) y = true
      · rw [if_pos hy, if_pos ⟨by omega, hy.2⟩]
      · rw [if_neg hy, if_neg (fun q => hy ⟨by
          have h4 : y ≠ i := fun e => by rw [e] at q; exact q.2 hb
          have := q.1
          omega, q.2⟩)]
    · rw [if_neg hb]
      refine ⟨h1, h2, fun y => ?_⟩
      show nP (stP (snW C N g i) i (aSnd (nP (snW C N g i) i))) y = _
      by_cases hy : y = i
      · subst hy
        rw [stP_eq, h3 y, if_neg (fun q => by omega), if_pos ⟨by omega, hb⟩]
      · rw [stP_ne hy, h3 y]
        by_cases hyi : y < i ∧ ¬ bit (nI g) y = true
        · rw [if_pos hyi, if_pos ⟨by omega, hyi.2⟩]
        · rw [if_neg hyi, if_neg (fun q => hyi ⟨by omega, q.2⟩)]
/-- false hits only grow -/
theorem srch_fl {C : Cf} {x p : Nat} : ∀ (j y : Nat) (N : Nt), ∃ k, k ≤ j ∧ nFl (srch C x p j y N).2 = nFl N + nI k
  | 0, y, N => ⟨0, Nat.le_refl _, (Int32.add_zero _).symm⟩
  | j + 1, y, N => by
    rw [srch]
    by_cases hyx : y = x
    · rw [if_pos hyx]
      obtain ⟨k, h1, h2⟩ := srch_fl (C := C) (x := x) (p := p) j (y + 1) N
      exact ⟨k, by omega, h2⟩
    · rw [if_neg hyx]
      by_cases hc : con (pM (nP N y)) (cel C (nF N) p) (cK C) = true
      · rw [if_pos hc]
        cases hpl : pl (pS (nP N y)) p (pN (nP N y)) with
        | none =>
          obtain ⟨k, h1, h2⟩ := srch_fl (C := C) (x := x) (p := p) j (y + 1) (nFlS (nRqS N))
          refine ⟨k + 1, by omega, ?_⟩
          show nFl (srch C x p j (y + 1) (nFlS (nRqS N))).2 = _
          rw [h2]
          show nFl N + 1 + nI k = _
          rw [Int32.add_assoc, i_1, nadd, Nat.add_comm]
        | some i => exact ⟨0, by omega, (Int32.add_zero _).symm⟩
      · rw [if_neg hc]
        obtain ⟨k, h1, h2⟩ := srch_fl (C := C) (x := x) (p := p) j (y + 1) N
        exact ⟨k, by omega, h2⟩
theorem add_nI_ne {a : Int32} {k : Nat} (h0 : 0 < k) (hk : k < 1000) : ¬ a + nI k = a := by
  intro e
  have e2 : nI k = 0 := by
    have : a + nI k - a = a - a := by rw [e]
    rwa [Int32.sub_self, Int32.add_comm, Int32.add_sub_cancel] at this
  rw [n0eq (by omega)] at e2
  omega
/-- what a search finds -/
theorem srch_sv {C : Cf} {N : Nt} {x p g : Nat} (hn : cN C ≤ 4) : ∀ (j y : Nat), y + j = cN C → (svB C N x p g j y = none → (srch C x p j y (snW C N g (cN C))).1 = m9 ∧ nFl (srch C x p j y (snW C N g (cN C))).2 = nFl N) ∧ (svB C N x p g j y = some true → ¬ (srch C x p j y (snW C N g (cN C))).1 = m9 ∧ ¬ (srch C x p j y (snW C N g (cN C))).1 = 10 ∧ nFl (srch C x p j y (snW C N g (cN C))).2 = nFl N) ∧ (svB C N x p g j y = some false → ¬ nFl (srch C x p j y (snW C N g (cN C))).2 = nFl N ∧ ¬ (srch C x p j y (snW C N g (cN C))).1 = 10)
  | 0, y, hy => by
    obtain ⟨h1, h2, h3⟩ := snW_eq C N g (cN C)
    refine ⟨fun _ => ⟨rfl, h2⟩, fun h => (by cases h), fun h => (by cases h)⟩
  | j + 1, y, hy => by
    obtain ⟨h1, h2, h3⟩ := snW_eq C N g (cN C)
    have ih := srch_sv (C := C) (N := N) (x := x) (p := p) (g := g) hn j (y + 1) (by omega)
    rw [srch, svB]
    by_cases hyx : y = x
    · rw [if_pos hyx, if_pos hyx]; exact ih
    · rw [if_neg hyx, if_neg hyx]
      have ep : pM (nP (snW C N g (cN C)) y) = if bit (nI g) y = true then pM (nP N y) else flt (pC (nP N y)) 16 := by
        rw [h3 y]
        by_cases hb : bit (nI g) y = true
        · rw [if_neg (fun q => q.2 hb), if_pos hb]
        · rw [if_pos ⟨by omega, hb⟩, if_neg hb]; rfl
      have es : pl (pS (nP (snW C N g (cN C)) y)) p (pN (nP (snW C N g (cN C)) y)) = pl (pS (nP N y)) p (pN (nP N y)) := by
        rw [h3 y]
        by_cases hb : y < cN C ∧ ¬ bit (nI g) y = true
        · rw [if_pos hb]; rfl
        · rw [if_neg hb]
      rw [ep, h1, es]
      by_cases hc : con (if bit (nI g) y = true then pM (nP N y) else flt (pC (nP N y)) 16) (cel C (nF N) p) (cK C) = true
      · rw [if_pos hc, if_pos hc]
        unfold onS
        cases hpl : pl (pS (nP N y)) p (pN (nP N y)) with
        | none =>
          refine ⟨fun h => (by cases h), fun h => (by cases h), fun _ => ?_⟩
          obtain ⟨k, k1, k2⟩ := srch_fl (C := C) (x := x) (p := p) j (y + 1) (nFlS (nRqS (snW C N g (cN C))))
          have hs : ∀ (j y : Nat) (M : Nt), y + j ≤ 4 → ¬ (srch C x p j y M).1 = 10 := by
            intro j
            induction j with
            | zero => intro y M _; exact (by decide : ¬ m9 = 10)
            | succ j ih =>
              intro y M hy
              rw [srch]
              by_cases hyx : y = x
              · rw [if_pos hyx]; exact ih _ _ (by omega)
              · rw [if_neg hyx]
                by_cases hc : con (pM (nP M y)) (cel C (nF M) p) (cK C) = true
                · rw [if_pos hc]
                  cases pl (pS (nP M y)) p (pN (nP M y)) with
                  | none => exact ih _ _ (by omega)
                  | some i =>
                    have : ∀ y, y < 4 → ¬ nI y = 10 := by decide
                    exact this y (by omega)
                · rw [if_neg hc]; exact ih _ _ (by omega)
          refine ⟨?_, hs _ _ _ (by omega)⟩
          show ¬ nFl (srch C x p j (y + 1) (nFlS (nRqS (snW C N g (cN C))))).2 = nFl N
          rw [k2]
          show ¬ nFl (snW C N g (cN C)) + 1 + nI k = nFl N
          rw [h2, Int32.add_assoc, i_1, nadd]
          exact add_nI_ne (by omega) (by omega)
        | some i =>
          have hy4 : ∀ y, y < 4 → ¬ nI y = m9 ∧ ¬ nI y = 10 := by decide
          have := hy4 y (by omega)
          exact ⟨fun h => (by cases h), fun _ => ⟨this.1, this.2, h2⟩, fun h => (by cases h)⟩
      · rw [if_neg hc, if_neg hc]; exact ih
theorem sdu_fl (C : Cf) (N : Nt) : ∀ k, nFl (sdu C N k) = nFl N
  | 0 => rfl
  | k + 1 => by
    rw [sdu]
    by_cases h : pH (nP (sdu C N k) k) < pL (nP (sdu C N k) k)
    · rw [if_pos h]; exact sdu_fl C N k
    · rw [if_neg h]; exact sdu_fl C N k
theorem cme_fl (C : Cf) (x p : Nat) (N : Nt) : nFl (cme C x p N) = nFl N := by
  unfold cme
  by_cases h : pN (nP N x) < cR C x
  · rw [if_pos h]; rfl
  · rw [if_neg h]; rfl
theorem aft_fl (C : Cf) (x p : Nat) (N : Nt) : nFl (aft C x p N) = nFl (srch C x p (cN C) 0 N).2 := by
  unfold aft
  by_cases h : (srch C x p (cN C) 0 N).1 = m9
  · rw [if_pos h]; rfl
  · rw [if_neg h]
/-- another proxy has the page -/
def oth (N : Nt) (x p : Nat) : Nat → Bool := anyB (fun y => !decide (y = x) && onS (nP N y) p)
theorem oth_hld {N : Nt} {x p : Nat} (h : onS (nP N x) p = false) : ∀ n, (!oth N x p n) = decide (hld N p n = 0)
  | 0 => rfl
  | n + 1 => by
    have ih := oth_hld h n
    unfold oth hld at ih ⊢
    rw [anyB, cntB]
    by_cases hn : n = x
    · subst hn
      rw [decide_eq_true rfl, h, Bool.not_true, Bool.false_and, Bool.or_false, if_neg (by decide)]
      exact ih
    · rw [decide_eq_false hn, Bool.not_false, Bool.true_and, Bool.not_or, ih]
      cases onS (nP N n) p with
      | false => rw [if_neg (by decide)]; simp
      | true => rw [if_pos rfl]; simp
def isR (C : Cf) (N : Nt) (x p g : Nat) : Bool := onS (nP N x) p || lOK C N x p g
/-- whether a request is right, as the reference sees it -/
def rgt (C : Cf) (N : Nt) (x p g : Nat) : Bool :=
  if (ask C x p (snW C N g (cN C))).1 = 10 then true else if nFl (ask C x p (snW C N g (cN C))).2 = nFl (snW C N g (cN C)) then (if (ask C x p (snW C N g (cN C))).1 = m9 then !oth N x p (cN C) else true) else false
theorem rgt_eq {C : Cf} {N : Nt} {x p g : Nat} (hC : WfC C) : rgt C N x p g = isR C N x p g := by
  have hn := hC.2.2.2.2.1
  obtain ⟨h1, h2, h3⟩ := snW_eq C N g (cN C)
  have es : pl (pS (nP (snW C N g (cN C)) x)) p (pN (nP (snW C N g (cN C)) x)) = pl (pS (nP N x)) p (pN (nP N x)) := by
    rw [h3 x]
    by_cases hb : x < cN C ∧ ¬ bit (nI g) x = true
    · rw [if_pos hb]; rfl
    · rw [if_neg hb]
  unfold rgt isR
  rw [ask_eq, es]
  unfold onS
  cases hpl : pl (pS (nP N x)) p (pN (nP N x)) with
  | some i =>
    show (if nI 10 = 10 then true else _) = _
    rw [if_pos (show nI 10 = 10 from rfl)]; rfl
  | none =>
    have hno : onS (nP N x) p = false := by unfold onS; rw [hpl]; rfl
    show (if (srch C x p (cN C) 0 (snW C N g (cN C))).1 = 10 then true else if nFl (sdu C (cme C x p (aft C x p (snW C N g (cN C)))) (cN C)) = nFl (snW C N g (cN C)) then (if (srch C x p (cN C) 0 (snW C N g (cN C))).1 = m9 then !oth N x p (cN C) else true) else false) = lOK C N x p g
    rw [sdu_fl, cme_fl, aft_fl, h2]
    obtain ⟨s1, s2, s3⟩ := srch_sv (C := C) (N := N) (x := x) (p := p) (g := g) hn (cN C) 0 (by omega)
    unfold lOK
    cases hsv : svB C N x p g (cN C) 0 with
    | none =>
      obtain ⟨a1, a2⟩ := s1 hsv
      rw [a1, if_neg (by decide), if_pos a2, if_pos rfl]
      exact oth_hld hno _
    | some b =>
      cases b with
      | true =>
        obtain ⟨a1, a2, a3⟩ := s2 hsv
        rw [if_neg a2, if_pos a3, if_neg a1]
      | false =>
        obtain ⟨a1, a2⟩ := s3 hsv
        rw [if_neg a2, if_neg a1]
