/-! judge: the reference; whole -/
theorem r8_doesA {I : HI} {m so x p d t : Nat} {C : Cf} {r : Nat → Int32} {N : Nt} (hC : WfC C) (ht : t + 27 < 1000000) (hh : CfAt I m C) (hx10 : x < 10) (hp : p < 100) (hd : d < 10) (hso : so < 10) (h : RnAt r C N) (hw : WfN C t N) {s : Nat} (e1 : nI s / (10000 : Int32) = nI so) (e2 : jrem (nI s / (1000 : Int32)) (10 : Int32) = nI x) (e3 : jrem (nI s / (10 : Int32)) (100 : Int32) = nI p) (e4 : jrem (nI s) (10 : Int32) = nI d) : ∃ r', ((holdA C so x p d N).1 = true → RnAt r' C (holdA C so x p d N).2) ∧ f_X8_does (rowS I (m + 10) r) m (nI s) = some (bZ (holdA C so x p d N).1, rowS I (m + 10) r') := by
  have hn := hC.2.2.2.2.1
  have hF := hC.2.2.1
  have hhr := hh.row (w := m + 10) (by omega) r
  have e9 : rowS I (m + 10) r m 9 = nI (cN C) := hhr.2.2.2.1
  have e6 : rowS I (m + 10) r m 6 = nI (cF C) := hhr.2.2.1
  have no : ∃ r', (false = true → RnAt r' C N) ∧ some ((0 : Int32), rowS I (m + 10) r) = some (bZ false, rowS I (m + 10) r') := ⟨r, fun h => absurd h Bool.false_ne_true, rfl⟩
  -- whether there is such a proxy, and such a page
  have red : f_X8_does (rowS I (m + 10) r) m (nI s) = X8_does_J54 (rowS I (m + 10) r) m (nI s) (nI x) (nI p) (nI d) (bZ (decide (x < cN C))) (bZ (decide (x < cN C ∧ p < 32))) := by
    unfold f_X8_does
    rw [e2, e3, e4, lt1s, lt1s, lt1s, e9]
    unfold X8_does_J36 X8_does_J53
    by_cases hx : x < cN C
    · rw [if_pos (show nI x < nI (cN C) by rw [nlt (by omega) (by omega)]; exact hx), if_neg (by decide), decide_eq_true hx]
      by_cases hp32 : p < 32
      · rw [if_pos (show nI p < (32 : Int32) by rw [i_32, nlt (by omega) (by omega)]; exact hp32), decide_eq_true (show x < cN C ∧ p < 32 from ⟨hx, hp32⟩)]; rfl
      · rw [if_neg (show ¬ nI p < (32 : Int32) by rw [i_32, nlt (by omega) (by omega)]; exact hp32), decide_eq_false (fun q => hp32 q.2)]; rfl
    · rw [if_neg (show ¬ nI x < nI (cN C) by rw [nlt (by omega) (by omega)]; exact hx), if_pos rfl, decide_eq_false hx, decide_eq_false (fun q => hx q.1)]; rfl
  rw [red]
  unfold X8_does_J54 holdA
  rw [e1]
  by_cases hxp : x < cN C ∧ p < 32
  · obtain ⟨hx, hp32⟩ := hxp
    have hsh := hw.shf hx
    have hpo := r8_placeOf (I := I) (w := m + 10) (h.1 x hx) hsh (by omega) hp32
    rw [decide_eq_true hx, decide_eq_true (show x < cN C ∧ p < 32 from ⟨hx, hp32⟩), if_pos (show x < cN C ∧ p < 32 from ⟨hx, hp32⟩)]
    by_cases h1 : so = 1
    · rw [if_pos (show nI so = 1 by rw [h1]; rfl), if_neg (show ¬ so = 7 by omega), if_pos h1, if_neg bZt]
      by_cases hd0 : d = 0
      · rw [if_pos (show nI d = 0 by rw [hd0]; rfl), if_pos hd0]
        obtain ⟨r1, a1, a2⟩ := r8_askOn (I := I) (w := m + 10) hC hh (by omega) (by omega) h hw hx hp32
        rw [a2, bd2s]
        exact ⟨r1, fun _ => a1, rfl⟩
      · rw [if_neg (show ¬ nI d = 0 by rw [n0eq (by omega)]; exact hd0), if_neg hd0]
        exact no
    · rw [if_neg (show ¬ nI so = 1 by rw [i_1, neq (by omega) (by omega)]; exact h1), if_neg h1]
      by_cases h2 : so = 2
      · rw [if_pos (show nI so = 2 by rw [h2]; rfl), if_neg (show ¬ so = 7 by omega), if_pos h2, if_neg bZt]
        by_cases hd0 : d = 0
        · rw [if_pos (show nI d = 0 by rw [hd0]; rfl), hpo, bd1s, bd1s]
          unfold onS
          cases hpl : pl (pS (nP N x)) p (pN (nP N x)) with
          | none =>
            rw [if_pos (show plV none = (-9 : Int32) from rfl), if_neg (fun hh => Bool.false_ne_true hh.2)]
            exact no
          | some i =>
            have hi := (pl_some hpl).1
            rw [if_neg (show ¬ plV (some i) = (-9 : Int32) by show ¬ nI i = m9; rw [nI_m9 (by have := hsh.1; have := hsh.2.1; omega)]; exact id), if_pos ⟨hd0, rfl⟩]
            obtain ⟨r1, a1, a2⟩ := r8_dropOn (I := I) (w := m + 10) hC hh (by omega) (by omega) h hw hx hi
            have a2' : f_X8_dropOn (rowS I (m + 10) r) m (m + 10) (nI x) (plV (some i)) = some (rowS I (m + 10) r1) := a2
            rw [a2', bd1s]
            refine ⟨r1, fun _ => ?_, rfl⟩
            unfold dsc
            rw [hpl]
            exact a1
        · rw [if_neg (show ¬ nI d = 0 by rw [n0eq (by omega)]; exact hd0), if_neg (fun hh => hd0 hh.1)]
          exact no
      · rw [if_neg (show ¬ nI so = 2 by rw [i_2, neq (by omega) (by omega)]; exact h2), if_neg h2]
        by_cases h3 : so = 3
        · rw [if_pos (show nI so = 3 by rw [h3]; rfl), if_neg (show ¬ so = 7 by omega), if_pos h3, if_neg bZt]
          by_cases hp0 : p = 0
          · rw [if_pos (show nI p = 0 by rw [hp0]; rfl)]
            by_cases hd0 : d = 0
            · rw [if_pos (show nI d = 0 by rw [hd0]; rfl), if_pos ⟨hp0, hd0⟩]
              obtain ⟨r1, a1, a2⟩ := r8_sendOn (I := I) (w := m + 10) hC hh (by omega) h hw hx
              rw [a2, bd1s]
              exact ⟨r1, fun _ => a1, rfl⟩
            · rw [if_neg (show ¬ nI d = 0 by rw [n0eq (by omega)]; exact hd0), if_neg (fun hh => hd0 hh.2)]
              exact no
          · rw [if_neg (show ¬ nI p = 0 by rw [n0eq (by omega)]; exact hp0), if_neg (fun hh => hp0 hh.1)]
            exact no
        · rw [if_neg (show ¬ nI so = 3 by rw [i_3, neq (by omega) (by omega)]; exact h3), if_neg h3]
          by_cases h4 : so = 4
          · rw [if_pos (show nI so = 4 by rw [h4]; rfl), if_neg (show ¬ so = 7 by omega), if_pos h4, if_neg bZt]
            by_cases hd2 : d < 2
            · rw [if_pos (show nI d < 2 by rw [i_2, nlt (by omega) (by omega)]; exact hd2), hpo, bd1s, decide_eq_true hd2, Bool.true_and]
              unfold X8_does_J232 onS
              have fin : ∀ b : Bool, ∃ r', ((b == decide (d = 1)) = true → RnAt r' C N) ∧ (if bZ b = nI d then some ((1 : Int32), rowS I (m + 10) r) else some ((0 : Int32), rowS I (m + 10) r)) = some (bZ (b == decide (d = 1)), rowS I (m + 10) r') := by
                intro b
                rcases (show d = 0 ∨ d = 1 by omega) with rfl | rfl <;> cases b <;> exact ⟨r, fun _ => h, rfl⟩
              cases hpl : pl (pS (nP N x)) p (pN (nP N x)) with
              | none => rw [if_pos (show plV none = (-9 : Int32) from rfl)]; exact fin false
              | some i =>
                have hi := (pl_some hpl).1
                rw [if_neg (show ¬ plV (some i) = (-9 : Int32) by show ¬ nI i = m9; rw [nI_m9 (by have := hsh.1; have := hsh.2.1; omega)]; exact id)]
                exact fin true
            · rw [if_neg (show ¬ nI d < 2 by rw [i_2, nlt (by omega) (by omega)]; exact hd2), decide_eq_false hd2, Bool.false_and]
              exact no
          · rw [if_neg (show ¬ nI so = 4 by rw [i_4, neq (by omega) (by omega)]; exact h4), if_neg h4]
            by_cases h5 : so = 5
            · rw [if_pos (show nI so = 5 by rw [h5]; rfl), if_neg (show ¬ so = 7 by omega), if_pos h5, if_neg bZt]
              by_cases hd2 : d < 2
              · have es : f_X8_summarySays (rowS I (m + 10) r) m (m + 10) (nI x) (nI p) = some (bZ (con (pM (nP N x)) (cel C (nF N) p) (cK C))) := by
                  unfold f_X8_summarySays
                  rw [i_29, i_26, i_116, nmul, nadd, gv (by omega) (by omega), gv (by omega) (by omega), ncl (by omega), ncl (by omega), rowS_at, (h.1 x hx).2.2.2.1, h.2.1, r8_isSaid hC hhr hw.1 hp32, bd1s, gdt (bZ_zb _)]
                rw [if_pos (show nI d < 2 by rw [i_2, nlt (by omega) (by omega)]; exact hd2), es, bd1s, decide_eq_true hd2, Bool.true_and]
                unfold X8_does_J272
                generalize con (pM (nP N x)) (cel C (nF N) p) (cK C) = b
                rcases (show d = 0 ∨ d = 1 by omega) with rfl | rfl <;> cases b <;> exact ⟨r, fun _ => h, rfl⟩
              · rw [if_neg (show ¬ nI d < 2 by rw [i_2, nlt (by omega) (by omega)]; exact hd2), decide_eq_false hd2, Bool.false_and]
                exact no
            · rw [if_neg (show ¬ nI so = 5 by rw [i_5, neq (by omega) (by omega)]; exact h5), if_neg h5]
              by_cases h6 : so = 6
              · rw [if_pos (show nI so = 6 by rw [h6]; rfl), if_neg (show ¬ so = 7 by omega), if_pos h6, if_neg bZt]
                by_cases hp0 : p = 0
                · rw [if_pos (show nI p = 0 by rw [hp0]; rfl), i_29, i_27, nmul, nadd, gv (by omega) (by omega), ncl (by omega), rowS_at, (h.1 x hx).2.2.2.2.1]
                  by_cases hh : pH (nP N x) = nI d
                  · rw [if_pos hh, decide_eq_true ⟨hp0, hh⟩]; exact ⟨r, fun _ => h, rfl⟩
                  · rw [if_neg hh, decide_eq_false (fun q => hh q.2)]; exact no
                · rw [if_neg (show ¬ nI p = 0 by rw [n0eq (by omega)]; exact hp0), decide_eq_false (fun q => hp0 q.1)]
                  exact no
              · rw [if_neg (show ¬ nI so = 6 by rw [i_6, neq (by omega) (by omega)]; exact h6), if_neg h6]
                by_cases h7 : so = 7
                · rw [if_pos (show nI so = 7 by rw [h7]; rfl), if_pos h7, e6]
                  by_cases hf : x < cF C
                  · rw [if_pos (show nI x < nI (cF C) by rw [nlt (by omega) (by omega)]; exact hf)]
                    by_cases hp0 : p = 0
                    · rw [if_pos (show nI p = 0 by rw [hp0]; rfl)]
                      by_cases hd0 : d = 0
                      · rw [if_pos (show nI d = 0 by rw [hd0]; rfl), if_pos ⟨hp0, hd0, hf⟩]
                        obtain ⟨r1, a1, a2⟩ := r8_useOn (I := I) (w := m + 10) (t := t + 27) hC hh (by omega) hf (by omega) h (hw.mono (by omega))
                        rw [a2, bd1s]
                        exact ⟨r1, fun _ => a1, rfl⟩
                      · rw [if_neg (show ¬ nI d = 0 by rw [n0eq (by omega)]; exact hd0), if_neg (fun hh => hd0 hh.2.1)]
                        exact no
                    · rw [if_neg (show ¬ nI p = 0 by rw [n0eq (by omega)]; exact hp0), if_neg (fun hh => hp0 hh.1)]
                      exact no
                  · rw [if_neg (show ¬ nI x < nI (cF C) by rw [nlt (by omega) (by omega)]; exact hf), if_neg (fun hh => hf hh.2.2)]
                    exact no
                · rw [if_neg (show ¬ nI so = 7 by rw [i_7, neq (by omega) (by omega)]; exact h7), if_neg h7]
                  exact no
  · rw [decide_eq_false hxp, if_neg hxp]
    have k0 : bZ false = 0 := rfl
    by_cases h7 : so = 7
    · rw [if_neg (show ¬ nI so = 1 by rw [i_1, neq (by omega) (by omega)]; omega), if_neg (show ¬ nI so = 2 by rw [i_2, neq (by omega) (by omega)]; omega), if_neg (show ¬ nI so = 3 by rw [i_3, neq (by omega) (by omega)]; omega), if_neg (show ¬ nI so = 4 by rw [i_4, neq (by omega) (by omega)]; omega), if_neg (show ¬ nI so = 5 by rw [i_5, neq (by omega) (by omega)]; omega), if_neg (show ¬ nI so = 6 by rw [i_6, neq (by omega) (by omega)]; omega), if_pos (show nI so = 7 by rw [h7]; rfl), if_pos h7, e6]
      by_cases hf : x < cF C
      · rw [if_pos (show nI x < nI (cF C) by rw [nlt (by omega) (by omega)]; exact hf)]
        by_cases hp0 : p = 0
        · rw [if_pos (show nI p = 0 by rw [hp0]; rfl)]
          by_cases hd0 : d = 0
          · rw [if_pos (show nI d = 0 by rw [hd0]; rfl), if_pos ⟨hp0, hd0, hf⟩]
            obtain ⟨r1, a1, a2⟩ := r8_useOn (I := I) (w := m + 10) (t := t + 27) hC hh (by omega) hf (by omega) h (hw.mono (by omega))
            rw [a2, bd1s]
            exact ⟨r1, fun _ => a1, rfl⟩
          · rw [if_neg (show ¬ nI d = 0 by rw [n0eq (by omega)]; exact hd0), if_neg (fun hh => hd0 hh.2.1)]
            exact no
        · rw [if_neg (show ¬ nI p = 0 by rw [n0eq (by omega)]; exact hp0), if_neg (fun hh => hp0 hh.1)]
          exact no
      · rw [if_neg (show ¬ nI x < nI (cF C) by rw [nlt (by omega) (by omega)]; exact hf), if_neg (fun hh => hf hh.2.2)]
        exact no
    · rw [if_neg h7]
      have gen : ∀ A B C D E F G : Option (Int32 × HI), (∀ z ∈ [A, B, C, D, E, F, G], z = some (0, rowS I (m + 10) r)) → (if nI so = 1 then A else if nI so = 2 then B else if nI so = 3 then C else if nI so = 4 then D else if nI so = 5 then E else if nI so = 6 then F else G) = some (0, rowS I (m + 10) r) := by
        intro A B C D E F G hz
        have a1 := hz A (by simp)
        have a2 := hz B (by simp)
        have a3 := hz C (by simp)
        have a4 := hz D (by simp)
        have a5 := hz E (by simp)
        have a6 := hz F (by simp)
        have a7 := hz G (by simp)
        rw [a1, a2, a3, a4, a5, a6, a7]
        simp only [ite_self]
      have hr : ∃ r', (false = true → RnAt r' C N) ∧ some ((0 : Int32), rowS I (m + 10) r) = some (bZ false, rowS I (m + 10) r') := no
      refine (gen _ _ _ _ _ _ _ ?_).symm ▸ hr
      have h7' : ¬ nI so = 7 := by rw [i_7, neq (by omega) (by omega)]; exact h7
      have hx3 : (if bZ (decide (x < cN C)) = 0 then some ((0 : Int32), rowS I (m + 10) r) else if nI p = 0 then if nI d = 0 then bd1 (f_X8_sendOn (rowS I (m + 10) r) m (m + 10) (nI x)) fun I_27 => some ((1 : Int32), I_27) else some ((0 : Int32), rowS I (m + 10) r) else some ((0 : Int32), rowS I (m + 10) r)) = some ((0 : Int32), rowS I (m + 10) r) := by
        by_cases hx : x < cN C
        · have hp32 : ¬ p < 32 := fun q => hxp ⟨hx, q⟩
          rw [decide_eq_true hx, if_neg bZt, if_neg (show ¬ nI p = 0 by rw [n0eq (by omega)]; omega)]
        · rw [decide_eq_false hx, if_pos bZf]
      intro z hz
      simp only [List.mem_cons, List.mem_nil_iff, or_false] at hz
      rcases hz with rfl | rfl | rfl | rfl | rfl | rfl | rfl
      · exact if_pos k0
      · exact if_pos k0
      · exact hx3
      · exact if_pos k0
      · exact if_pos k0
      · by_cases hx : x < cN C
        · have hp32 : ¬ p < 32 := fun q => hxp ⟨hx, q⟩
          rw [decide_eq_true hx, if_neg bZt, if_neg (show ¬ nI p = 0 by rw [n0eq (by omega)]; omega)]
        · rw [decide_eq_false hx, if_pos bZf]
      · exact if_neg h7'
