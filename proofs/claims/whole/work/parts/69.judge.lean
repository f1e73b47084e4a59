/-! judge, on both sides -/
theorem x1_isSo0 {I : HI} {n a rm p : Nat} {P : Prx} (h : PxAt I a rm P) (hs : Shf rm (pN P) (pS P)) (hp : p < 32) : f_X1_isSo I n a 0 (nI p) = some (bZ (onS P p)) := by
  unfold f_X1_isSo
  rw [if_pos rfl, x4_has h hs hp, bd1s, gdt (bZ_zb _)]
  rfl
theorem x1_isSo1 {I : HI} {n x p t : Nat} {C : Cf} {N : Nt} (hC : WfC C) (h : NtAt I n C N) (hw : WfN C t N) (hx : x < cN C) (hp : p < 32) : f_X1_isSo I n (n + 4 + 1 + 3 * x) 1 (nI p) = some (bZ (con (pM (nP N x)) (cel C (nF N) p) (cK C))) := by
  unfold f_X1_isSo X1_isSo_J26
  rw [if_neg (by decide), if_pos rfl, (h.2.2.2.2.2.2 x hx).2.2.2.2.1, h.1.2.2.2.1, x0_contains hC h.1 hw.1 hp, bd1s, gdt (bZ_zb _)]
theorem x1_isSo2 {I : HI} {n x p t : Nat} {C : Cf} {N : Nt} (hC : WfC C) (h : NtAt I n C N) (hw : WfN C t N) (hx : x < cN C) (hp : p < 32) : f_X1_isSo I n (n + 4 + 1 + 3 * x) 2 (nI p) = some (bZ (con (flt (pC (nP N x)) 16) (cel C (nF N) p) (cK C))) := by
  unfold f_X1_isSo X1_isSo_J26
  rw [if_neg (by decide), if_neg (by decide), x4_filterSet (h.2.2.2.2.2.2 x hx), bd1s, h.1.2.2.2.1, x0_contains hC h.1 hw.1 hp, bd1s, gdt (bZ_zb _)]
/-- one step: whether it can be, or is so, and what it leaves -/
def holdA (C : Cf) (so x p d : Nat) (N : Nt) : Bool × Nt :=
  if so = 7 then (if p = 0 ∧ d = 0 ∧ x < cF C then (true, adp C (nFam N x) (cN C)) else (false, N))
  else if x < cN C ∧ p < 32 then
    (if so = 1 then (if d = 0 then (true, (ask C x p N).2) else (false, N))
     else if so = 2 then (if d = 0 ∧ onS (nP N x) p = true then (true, (dsc C x p N).2) else (false, N))
     else if so = 3 then (if p = 0 ∧ d = 0 then (true, snd1 C x N) else (false, N))
     else if so = 4 then (decide (d < 2) && (onS (nP N x) p == decide (d = 1)), N)
     else if so = 5 then (decide (d < 2) && (con (pM (nP N x)) (cel C (nF N) p) (cK C) == decide (d = 1)), N)
     else if so = 6 then (decide (p = 0 ∧ pH (nP N x) = nI d), N)
     else (false, N))
  else (false, N)
def hold (C : Cf) (s : Nat) (N : Nt) : Bool × Nt := holdA C (s / 10000) (s / 1000 % 10) (s / 10 % 100) (s % 10) N
theorem hold_wf {C : Cf} {so x p d t : Nat} {N : Nt} (hC : WfC C) (ht : t + 27 < 1000000) (hw : WfN C t N) : WfN C (t + 27) (holdA C so x p d N).2 := by
  have hm := hw.mono (t' := t + 27) (by omega)
  unfold holdA
  by_cases h7 : so = 7
  · rw [if_pos h7]
    by_cases hc : p = 0 ∧ d = 0 ∧ x < cF C
    · rw [if_pos hc]; exact adp_wf hC (by omega) (show WfN C (t + 27) (nFam N x) from ⟨hc.2.2, hm.2⟩) _ (Nat.le_refl _)
    · rw [if_neg hc]; exact hm
  · rw [if_neg h7]
    by_cases hxp : x < cN C ∧ p < 32
    · rw [if_pos hxp]
      by_cases h1 : so = 1
      · rw [if_pos h1]
        by_cases hd : d = 0
        · rw [if_pos hd]; exact (ask_wf hC hxp.2 hxp.1 (by omega) hw).mono (by omega)
        · rw [if_neg hd]; exact hm
      · rw [if_neg h1]
        by_cases h2 : so = 2
        · rw [if_pos h2]
          by_cases hd : d = 0 ∧ onS (nP N x) p = true
          · rw [if_pos hd]
            unfold dsc
            cases hpl : pl (pS (nP N x)) p (pN (nP N x)) with
            | none => exact hm
            | some i => exact WfN.sdu ((go_wf hC hxp.1 (by omega) hw (pl_some hpl).1).mono (by omega)) _
          · rw [if_neg hd]; exact hm
        · rw [if_neg h2]
          by_cases h3 : so = 3
          · rw [if_pos h3]
            by_cases hd : p = 0 ∧ d = 0
            · rw [if_pos hd]; exact hm.snd
            · rw [if_neg hd]; exact hm
          · rw [if_neg h3]
            by_cases h4 : so = 4
            · rw [if_pos h4]; exact hm
            · rw [if_neg h4]
              by_cases h5 : so = 5
              · rw [if_pos h5]; exact hm
              · rw [if_neg h5]
                by_cases h6 : so = 6
                · rw [if_pos h6]; exact hm
                · rw [if_neg h6]; exact hm
    · rw [if_neg hxp]; exact hm
theorem ask_ne {C : Cf} {x p : Nat} {N : Nt} (hC : WfC C) : ¬ (ask C x p N).1 = -1 := by
  have hn := hC.2.2.2.2.1
  have hs : ∀ (j y : Nat) (N : Nt), y + j ≤ 4 → ¬ (srch C x p j y N).1 = -1 := by
    intro j
    induction j with
    | zero => intro y N _; exact (by decide : ¬ m9 = -1)
    | succ j ih =>
      intro y N hy
      rw [srch]
      by_cases hyx : y = x
      · rw [if_pos hyx]; exact ih _ _ (by omega)
      · rw [if_neg hyx]
        by_cases hc : con (pM (nP N y)) (cel C (nF N) p) (cK C) = true
        · rw [if_pos hc]
          cases pl (pS (nP N y)) p (pN (nP N y)) with
          | none => exact ih _ _ (by omega)
          | some i =>
            have : ∀ y, y < 4 → ¬ nI y = -1 := by decide
            exact this y (by omega)
        · rw [if_neg hc]; exact ih _ _ (by omega)
  rw [ask_eq]
  cases pl (pS (nP N x)) p (pN (nP N x)) with
  | some i => exact (by decide : ¬ nI 10 = -1)
  | none => exact hs _ _ _ (by omega)
theorem bool_eq01 (a : Bool) {d : Nat} (hd : d < 2) {α : Type} (f g : α) : (if nI d = 1 then (if bZ a = 1 then f else g) else (if bZ a = 0 then f else g)) = if (a == decide (d = 1)) = true then f else g := by
  rcases (show d = 0 ∨ d = 1 by omega) with rfl | rfl <;> cases a <;> rfl
theorem x7_holdsA {I : HI} {n so x p d t : Nat} {C : Cf} {N : Nt} (hC : WfC C) (ht : t + 27 < 1000000) (hx10 : x < 10) (hp : p < 100) (hd : d < 10) (hso : so < 10) (h : NtAt I n C N) (hw : WfN C t N) {s : Nat} (e1 : nI s / (10000 : Int32) = nI so) (e2 : jrem (nI s / (1000 : Int32)) (10 : Int32) = nI x) (e3 : jrem (nI s / (10 : Int32)) (100 : Int32) = nI p) (e4 : jrem (nI s) (10 : Int32) = nI d) : ∃ I', (Off I I' n 17 ∧ ((holdA C so x p d N).1 = true → NtAt I' n C (holdA C so x p d N).2)) ∧ f_X7_holds I n (nI s) = some (bZ (holdA C so x p d N).1, I') := by
  have hn := hC.2.2.2.2.1
  have hF := hC.2.2.1
  have no : ∃ I', (Off I I' n 17 ∧ (false = true → NtAt I' n C N)) ∧ some ((0 : Int32), I) = some (bZ false, I') := ⟨I, ⟨Off.rf, fun h => by cases h⟩, rfl⟩
  unfold f_X7_holds holdA
  rw [e1, e2, e3, e4, lt1s, lt1s, lt1s, lt1s]
  by_cases h7 : so = 7
  · rw [if_pos (show nI so = 7 by rw [h7]; rfl), if_pos h7]
    by_cases hp0 : p = 0
    · rw [if_pos (show nI p = 0 by rw [hp0]; rfl)]
      by_cases hd0 : d = 0
      · rw [if_pos (show nI d = 0 by rw [hd0]; rfl)]
        by_cases hf : x < cF C
        · rw [if_pos ⟨hp0, hd0, hf⟩]
          obtain ⟨I1, ⟨a1, a2, -⟩, a3⟩ := x1_adopt (t := t + 27) hC hf (by omega) h (hw.mono (by omega))
          rw [a3, bd2s, if_neg (by decide)]
          exact ⟨I1, ⟨a2, fun _ => a1⟩, rfl⟩
        · rw [if_neg (fun hh => hf hh.2.2)]
          unfold f_X1_adopt
          rw [x0_familyIn hC h.1, bd1s, isIn_no (by omega) (Or.inr (by rw [nle (by omega) (by omega)]; omega)), if_pos bZf, bd2s, if_pos rfl]
          exact no
      · rw [if_neg (show ¬ nI d = 0 by rw [n0eq (by omega)]; exact hd0), if_neg (fun hh => hd0 hh.2.1)]
        exact no
    · rw [if_neg (show ¬ nI p = 0 by rw [n0eq (by omega)]; exact hp0), if_neg (fun hh => hp0 hh.1)]
      exact no
  · rw [if_neg (show ¬ nI so = 7 by rw [i_7, neq (by omega) (by omega)]; exact h7), if_neg h7]
    by_cases hx : x < cN C
    · have hpx := h.2.2.2.2.2.2 x hx
      have hsh := hw.shf hx
      rw [x1_proxyAt hn h hx, bd1s, mNs, x7_isPage, bd1s]
      by_cases hp32 : p < 32
      · rw [isIn_nI hp32 (by omega), if_neg bZt, if_pos ⟨hx, hp32⟩]
        by_cases h1 : so = 1
        · rw [if_pos (show nI so = 1 by rw [h1]; rfl), if_pos h1]
          by_cases hd0 : d = 0
          · rw [if_pos (show nI d = 0 by rw [hd0]; rfl), if_pos hd0]
            obtain ⟨I1, ⟨a1, a2, -⟩, a3⟩ := x1_request hC hp32 hx (by omega) h hw
            rw [a3, bd2s, if_neg (ask_ne hC)]
            exact ⟨I1, ⟨a2, fun _ => a1⟩, rfl⟩
          · rw [if_neg (show ¬ nI d = 0 by rw [n0eq (by omega)]; exact hd0), if_neg hd0]
            exact no
        · rw [if_neg (show ¬ nI so = 1 by rw [i_1, neq (by omega) (by omega)]; exact h1), if_neg h1]
          by_cases h2 : so = 2
          · rw [if_pos (show nI so = 2 by rw [h2]; rfl), if_pos h2]
            by_cases hd0 : d = 0
            · rw [if_pos (show nI d = 0 by rw [hd0]; rfl)]
              obtain ⟨I1, ⟨a1, a2, -⟩, a3⟩ := x1_discard hC hp32 hx (by omega) h hw
              rw [a3, bd2s]
              unfold onS
              cases hpl : pl (pS (nP N x)) p (pN (nP N x)) with
              | none =>
                rw [if_pos (show (dsc C x p N).1 = 0 by unfold dsc; rw [hpl]), if_neg (fun hh => Bool.false_ne_true hh.2)]
                exact ⟨I1, ⟨a2, fun h => by cases h⟩, rfl⟩
              | some i =>
                rw [if_neg (show ¬ (dsc C x p N).1 = 0 by unfold dsc; rw [hpl]; exact (by decide : ¬ (1 : Int32) = 0)), if_pos ⟨hd0, rfl⟩]
                exact ⟨I1, ⟨a2, fun _ => a1⟩, rfl⟩
            · rw [if_neg (show ¬ nI d = 0 by rw [n0eq (by omega)]; exact hd0), if_neg (fun hh => hd0 hh.1)]
              exact no
          · rw [if_neg (show ¬ nI so = 2 by rw [i_2, neq (by omega) (by omega)]; exact h2), if_neg h2]
            by_cases h3 : so = 3
            · rw [if_pos (show nI so = 3 by rw [h3]; rfl), if_pos h3]
              by_cases hp0 : p = 0
              · rw [if_pos (show nI p = 0 by rw [hp0]; rfl)]
                by_cases hd0 : d = 0
                · rw [if_pos (show nI d = 0 by rw [hd0]; rfl), if_pos ⟨hp0, hd0⟩]
                  obtain ⟨I1, ⟨a1, a2⟩, a3⟩ := x1_spread hn h hx
                  rw [a3, bd2s, if_neg (by decide)]
                  exact ⟨I1, ⟨a2, fun _ => a1⟩, rfl⟩
                · rw [if_neg (show ¬ nI d = 0 by rw [n0eq (by omega)]; exact hd0), if_neg (fun hh => hd0 hh.2)]
                  exact no
              · rw [if_neg (show ¬ nI p = 0 by rw [n0eq (by omega)]; exact hp0), if_neg (fun hh => hp0 hh.1)]
                exact no
            · rw [if_neg (show ¬ nI so = 3 by rw [i_3, neq (by omega) (by omega)]; exact h3), if_neg h3]
              by_cases h4 : so = 4
              · rw [if_pos (show nI so = 4 by rw [h4]; rfl), if_pos h4]
                by_cases hd2 : d < 2
                · rw [if_neg (show ¬ (1 : Int32) < nI d by rw [i_1, nlt (by omega) (by omega)]; omega), x1_isSo0 hpx hsh hp32, bd1s]
                  unfold X7_holds_J215
                  rw [bool_eq01 (onS (nP N x) p) hd2, decide_eq_true hd2, Bool.true_and]
                  cases (onS (nP N x) p == decide (d = 1)) with
                  | true => rw [if_pos rfl]; exact ⟨I, ⟨Off.rf, fun _ => h⟩, rfl⟩
                  | false => rw [if_neg (by decide)]; exact no
                · rw [if_pos (show (1 : Int32) < nI d by rw [i_1, nlt (by omega) (by omega)]; omega), decide_eq_false hd2, Bool.false_and]
                  exact no
              · rw [if_neg (show ¬ nI so = 4 by rw [i_4, neq (by omega) (by omega)]; exact h4), if_neg h4]
                by_cases h5 : so = 5
                · rw [if_pos (show nI so = 5 by rw [h5]; rfl), if_pos h5]
                  by_cases hd2 : d < 2
                  · rw [if_neg (show ¬ (1 : Int32) < nI d by rw [i_1, nlt (by omega) (by omega)]; omega), x1_isSo1 hC h hw hx hp32, bd1s]
                    unfold X7_holds_J250
                    rw [bool_eq01 (con (pM (nP N x)) (cel C (nF N) p) (cK C)) hd2, decide_eq_true hd2, Bool.true_and]
                    cases (con (pM (nP N x)) (cel C (nF N) p) (cK C) == decide (d = 1)) with
                    | true => rw [if_pos rfl]; exact ⟨I, ⟨Off.rf, fun _ => h⟩, rfl⟩
                    | false => rw [if_neg (by decide)]; exact no
                  · rw [if_pos (show (1 : Int32) < nI d by rw [i_1, nlt (by omega) (by omega)]; omega), decide_eq_false hd2, Bool.false_and]
                    exact no
                · rw [if_neg (show ¬ nI so = 5 by rw [i_5, neq (by omega) (by omega)]; exact h5), if_neg h5]
                  by_cases h6 : so = 6
                  · rw [if_pos (show nI so = 6 by rw [h6]; rfl), if_pos h6]
                    by_cases hp0 : p = 0
                    · rw [if_pos (show nI p = 0 by rw [hp0]; rfl), hpx.2.2.2.1]
                      by_cases hh : pH (nP N x) = nI d
                      · rw [if_pos hh, decide_eq_true ⟨hp0, hh⟩]; exact ⟨I, ⟨Off.rf, fun _ => h⟩, rfl⟩
                      · rw [if_neg hh, decide_eq_false (fun q => hh q.2)]; exact no
                    · rw [if_neg (show ¬ nI p = 0 by rw [n0eq (by omega)]; exact hp0), decide_eq_false (fun q => hp0 q.1)]
                      exact no
                  · rw [if_neg (show ¬ nI so = 6 by rw [i_6, neq (by omega) (by omega)]; exact h6), if_neg h6]
                    exact no
      · rw [isIn_no (v := nI p) (by omega) (Or.inr (by rw [nle (by omega) (by omega)]; omega)), if_pos bZf, if_neg (fun hh => hp32 hh.2)]
        exact no
    · rcases x1_proxyIn hC h (nI x) with ⟨y, hy, ey, -, -⟩ | ⟨-, e⟩
      · rw [neq (by omega) (by omega)] at ey; omega
      · rw [e, bd1s, mNn, if_neg (fun hh => hx hh.1)]
        exact no
