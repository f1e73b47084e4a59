/-! the class reads, whole -/
theorem dgF {I : HI} {B : Nat} {v w : Int32} : sI (sI I (B + 1) 4 v) (B + 1) 3 w (B + 1) 4 = v := by
  rw [sI_eq, uR_ne (by omega), sI_eq, uR_eq]
theorem offD {I : HI} {B k : Nat} {v : Int32} : Off I (sI I (B + 1) k v) (B + 1) 18 := Off.s (by omega)
theorem x6_readFamily {I : HI} {B a : Nat} {X : Tx} {C : Cf} {P : Nat → Prx} (hX : WfT X) (hw : WfQ C P) (ha : a < X.1) (h : RdC I B X a C P) (hl : X.2 a = 104) (h3 : cF C < 3) : ∃ I', (Off I I' (B + 1) 18 ∧ RdC I' B X (stpF X a C P).2.1 (stpF X a C P).2.2.1 (stpF X a C P).2.2.2) ∧ f_X6_readFamily I (B + 1) = some (bZ (stpF X a C P).1, I') := by
  have hT := hX.1
  have hn := hw.2.2.2.2.1
  unfold f_X6_readFamily stpF
  have h1 := h.mv (b := a + 1) hn
  rw [show (104 : Int32) = nI 104 from rfl, (x6_pass hX (by omega) (by omega) h).trans (if_pos ⟨ha, hl⟩), bd2s, if_neg (show ¬ (1 : Int32) = 0 by decide), if_pos h3, i_1, i_9, x6_passDigit hX (by omega) (by omega) (by omega) h1]
  by_cases f1 : fg X (a + 1) 1 9 = true
  · have h2 := (h1.dg (v := nI (X.2 (a + 1) - 48)) hn).mv (b := a + 1 + 1) hn
    rw [if_pos f1, if_pos f1, bd2s, if_neg (show ¬ (1 : Int32) = 0 by decide), dgF, lt1s, i_0, x6_passDigit hX (by omega) (by omega) (by omega) h2]
    by_cases f2 : fg X (a + 2) 0 9 = true
    · have h4 := (h2.dg (v := nI (X.2 (a + 2) - 48)) hn).mv (b := a + 1 + 1 + 1) hn
      rw [if_pos f2, if_pos f2, bd2s, if_neg (show ¬ (1 : Int32) = nI 0 by decide), dgF]
      obtain ⟨I5, ⟨a1, a2⟩, a3⟩ := x0_addFamily (a := X.2 (a + 1) - 48) (b := X.2 (a + 2) - 48) hn h4.2.2.2 h3
      have a3' : f_X0_addFamily (sI (sI (sI (sI (sI I (B + 1) 3 (nI (a + 1))) (B + 1) 4 (nI (X.2 (a + 1) - 48))) (B + 1) 3 (nI (a + 1 + 1))) (B + 1) 4 (nI (X.2 (a + 1 + 1) - 48))) (B + 1) 3 (nI (a + 1 + 1 + 1))) (B + 1 + 1 + 1) (nI (X.2 (a + 1) - 48)) (nI (X.2 (a + 1 + 1) - 48)) = some I5 := a3
      rw [a3', bd1s]
      refine ⟨I5, ⟨((((offD.tr offD).tr offD).tr offD).tr offD).tr (a2.wid (by omega) (by omega)), ?_, ?_, fun k hk => ?_, a1⟩, rfl⟩
      · rw [a2 _ (by omega)]; exact h4.1
      · rw [a2 _ (by omega)]; exact h4.2.1
      · rw [a2 _ (by omega)]; exact h4.2.2.1 k hk
    · rw [if_neg f2, if_neg f2, bd2s, if_pos (show (0 : Int32) = nI 0 from rfl)]
      exact ⟨_, ⟨(offD.tr offD).tr offD, h2⟩, rfl⟩
  · rw [if_neg f1, if_neg f1, bd2s, if_pos rfl]
    exact ⟨_, ⟨offD, h1⟩, rfl⟩
theorem x6_readProxy {I : HI} {B a : Nat} {X : Tx} {C : Cf} {P : Nat → Prx} (hX : WfT X) (hw : WfQ C P) (ha : a < X.1) (h : RdC I B X a C P) (hl : X.2 a = 112) (h3 : cN C < 4) : ∃ I', (Off I I' (B + 1) 18 ∧ RdC I' B X (stpP X a C P).2.1 (stpP X a C P).2.2.1 (stpP X a C P).2.2.2) ∧ f_X6_readProxy I (B + 1) = some (bZ (stpP X a C P).1, I') := by
  have hT := hX.1
  have hn := hw.2.2.2.2.1
  unfold f_X6_readProxy stpP
  have h1 := h.mv (b := a + 1) hn
  rw [show (112 : Int32) = nI 112 from rfl, (x6_pass hX (by omega) (by omega) h).trans (if_pos ⟨ha, hl⟩), bd2s, if_neg (show ¬ (1 : Int32) = 0 by decide), if_pos h3, i_1, i_9, x6_passDigit hX (by omega) (by omega) (by omega) h1]
  by_cases f1 : fg X (a + 1) 1 9 = true
  · have h2 := (h1.dg (v := nI (X.2 (a + 1) - 48)) hn).mv (b := a + 1 + 1) hn
    rw [if_pos f1, if_pos f1, bd2s, if_neg (show ¬ (1 : Int32) = 0 by decide), dgF, lt1s, x6_passDigit hX (by omega) (by omega) (by omega) h2]
    by_cases f2 : fg X (a + 2) 1 9 = true
    · have h4 := (h2.dg (v := nI (X.2 (a + 2) - 48)) hn).mv (b := a + 1 + 1 + 1) hn
      rw [if_pos f2, if_pos f2, bd2s, if_neg (show ¬ (1 : Int32) = 0 by decide), dgF]
      obtain ⟨I5, ⟨a1, a2⟩, a3⟩ := x1_addProxy (r := X.2 (a + 1) - 48) (l := X.2 (a + 2) - 48) h4.2.2.2 h3
      have a3' : f_X1_addProxy (sI (sI (sI (sI (sI I (B + 1) 3 (nI (a + 1))) (B + 1) 4 (nI (X.2 (a + 1) - 48))) (B + 1) 3 (nI (a + 1 + 1))) (B + 1) 4 (nI (X.2 (a + 1 + 1) - 48))) (B + 1) 3 (nI (a + 1 + 1 + 1))) (B + 1 + 1) (nI (X.2 (a + 1) - 48)) (nI (X.2 (a + 1 + 1) - 48)) = some I5 := a3
      rw [a3', bd1s]
      refine ⟨I5, ⟨((((offD.tr offD).tr offD).tr offD).tr offD).tr (a2.wid (by omega) (by omega)), ?_, ?_, fun k hk => ?_, a1⟩, rfl⟩
      · rw [a2 _ (by omega)]; exact h4.1
      · rw [a2 _ (by omega)]; exact h4.2.1
      · rw [a2 _ (by omega)]; exact h4.2.2.1 k hk
    · rw [if_neg f2, if_neg f2, bd2s, if_pos rfl]
      exact ⟨_, ⟨(offD.tr offD).tr offD, h2⟩, rfl⟩
  · rw [if_neg f1, if_neg f1, bd2s, if_pos rfl]
    exact ⟨_, ⟨offD, h1⟩, rfl⟩
theorem x1_proxyInQ {I : HI} {n : Nat} {C : Cf} {N : Nt} (hn : cN C ≤ 4) (h : NtAt I n C N) (v : Int32) : (∃ x, x < cN C ∧ v = nI x ∧ isIn v (cN C) = true ∧ f_X1_proxyAt I n v = some (some (n + 4 + 1 + 3 * x))) ∨ (isIn v (cN C) = false ∧ f_X1_proxyAt I n v = some none) := by
  rcases x1_proxyAt' hn h v with ⟨x, hx, rfl, e⟩ | ⟨h1, e⟩
  · exact Or.inl ⟨x, hx, rfl, isIn_nI hx (by omega), e⟩
  · exact Or.inr ⟨isIn_no (by omega) h1, e⟩
theorem x6_readShelved {I : HI} {B a : Nat} {X : Tx} {C : Cf} {P : Nat → Prx} (hX : WfT X) (hw : WfQ C P) (ha : a < X.1) (h : RdC I B X a C P) (hl : X.2 a = 115) (hr : anyR C P = true) : ∃ I', (Off I I' (B + 1) 18 ∧ RdC I' B X (stpS X a C P).2.1 (stpS X a C P).2.2.1 (stpS X a C P).2.2.2) ∧ f_X6_readShelved I (B + 1) = some (bZ (stpS X a C P).1, I') := by
  have hT := hX.1
  have hn := hw.2.2.2.2.1
  have w7 := hw.2.2.2.2.2.2
  unfold f_X6_readShelved stpS
  have h1 := h.mv (b := a + 1) hn
  rw [show (115 : Int32) = nI 115 from rfl, (x6_pass hX (by omega) (by omega) h).trans (if_pos ⟨ha, hl⟩), bd2s, if_neg (show ¬ (1 : Int32) = 0 by decide), if_pos hr, x6_letter hX (by omega) h1, bd1s]
  have o1 : Off I (sI I (B + 1) 3 (nI (a + 1))) (B + 1) 18 := offD
  generalize sI I (B + 1) 3 (nI (a + 1)) = I1 at h1 o1
  have hin := ltr_in hX (a + 1) (n := cN C)
  rcases x1_proxyInQ hn h1.2.2.2 (ltr X (a + 1) - 48) with ⟨x, hx, ex, e1, e2⟩ | ⟨e1, e2⟩
  · rw [e1] at hin
    obtain ⟨q1, q2, q3⟩ := of_decide_eq_true hin.symm
    have hxe : X.2 (a + 1) - 48 = x := by
      rw [ltr_v q1 q2] at ex
      have hv := hX.2 (a + 1) q1
      rwa [neq (by omega) (by omega)] at ex
    have e2' : f_X1_proxyAt I1 (B + 1 + 1) (ltr X (a + 1) - 48) = some (some (B + 2 + 4 + 1 + 3 * x)) := e2
    have hpx : PxAt I1 (B + 2 + 4 + 1 + 3 * x) (cR C x) (P x) := h1.2.2.2.2.2.2.2.2.2 x hx
    have hsh := (w7 x hx).1
    have eX : isX X (a + 1) C P = decide (pN (P x) < cR C x) := by
      unfold isX
      rw [hxe]
      exact decide_eq_decide.mpr ⟨fun q => q.2.2.2, fun q => ⟨q1, q2, q3, q⟩⟩
    rw [e2', bd1s, mNs, x4_hasRoom hpx hsh, bd1s, eX, hxe]
    by_cases hroom : pN (P x) < cR C x
    · have h2 := h1.mv (b := a + 1 + 1) hn
      rw [decide_eq_true hroom, if_neg bZt, if_pos rfl, h1.2.1, ninc, lt1s, x6_letter hX (by omega) h2, bd1s, lt1s]
      have o2 : Off I (sI I1 (B + 1) 3 (nI (a + 1 + 1))) (B + 1) 18 := o1.tr offD
      generalize sI I1 (B + 1) 3 (nI (a + 1 + 1)) = I2 at h2 o2
      have hpx2 : PxAt I2 (B + 2 + 4 + 1 + 3 * x) (cR C x) (P x) := h2.2.2.2.2.2.2.2.2.2 x hx
      rw [x6_mayBegin hX hpx2 hsh, bd1s]
      cases hT2 : isT X (a + 1 + 1) (P x) with
      | false =>
        rw [if_pos bZf, if_neg (show ¬ false = true by decide)]
        exact ⟨I2, ⟨o2, h2⟩, rfl⟩
      | true =>
        obtain ⟨t1, t2, t3⟩ := fgE ((Bool.and_eq_true _ _).mp hT2).1
        have h3 := h2.mv (b := a + 1 + 1 + 1) hn
        have ev : ltr X (a + 1 + 1) - 48 = nI (X.2 (a + 2) - 48) := ltr_v t1 (by omega)
        rw [if_neg bZt, if_pos (show true = true from rfl), h2.2.1, ninc, lt1s, x6_letter hX (by omega) h3, bd1s, ev]
        have o3 : Off I (sI I2 (B + 1) 3 (nI (a + 1 + 1 + 1))) (B + 1) 18 := o2.tr offD
        generalize sI I2 (B + 1) 3 (nI (a + 1 + 1 + 1)) = I3 at h3 o3
        have ht9 : X.2 (a + 2) - 48 ≤ 3 := by
          have : X.2 (a + 2) ≤ 48 + 3 := t3
          omega
        generalize X.2 (a + 2) - 48 = ten at ht9
        have hpx3 : PxAt I3 (B + 2 + 4 + 1 + 3 * x) (cR C x) (P x) := h3.2.2.2.2.2.2.2.2.2 x hx
        have no : isO X (a + 3) ten (P x) = false → ∃ I', (Off I I' (B + 1) 18 ∧ RdC I' B X (if isO X (a + 3) ten (P x) = true then ((true, a + 4, C, psh P x (10 * ten + (X.2 (a + 3) - 48))) : Rs) else (false, a + 3, C, P)).2.1 (if isO X (a + 3) ten (P x) = true then ((true, a + 4, C, psh P x (10 * ten + (X.2 (a + 3) - 48))) : Rs) else (false, a + 3, C, P)).2.2.1 (if isO X (a + 3) ten (P x) = true then ((true, a + 4, C, psh P x (10 * ten + (X.2 (a + 3) - 48))) : Rs) else (false, a + 3, C, P)).2.2.2) ∧ some ((0 : Int32), I3) = some (bZ (if isO X (a + 3) ten (P x) = true then ((true, a + 4, C, psh P x (10 * ten + (X.2 (a + 3) - 48))) : Rs) else (false, a + 3, C, P)).1, I') := fun q => by
          rw [if_neg (show ¬ isO X (a + 3) ten (P x) = true from fun q2 => by rw [q] at q2; exact Bool.false_ne_true q2)]
          exact ⟨I3, ⟨o3, h3⟩, rfl⟩
        by_cases hf : fg X (a + 3) 0 9 = true
        · obtain ⟨f1, f2, f3⟩ := fgE hf
          have el : (10 : Int32) * nI ten + ltr X (a + 1 + 1 + 1) - 48 = nI (10 * ten + (X.2 (a + 3) - 48)) := by
            have : ltr X (a + 1 + 1 + 1) = nI (X.2 (a + 3)) := if_pos f1
            rw [this, i_10, nmul, nadd, i_48, nsub (by omega)]
            congr 1
            omega
          have eO : isO X (a + 3) ten (P x) = okP (P x) (10 * ten + (X.2 (a + 3) - 48)) := by
            unfold isO
            rw [hf, Bool.true_and]
          rw [el, lt1s, x7_isPage, bd1s]
          by_cases hp : 10 * ten + (X.2 (a + 3) - 48) < 32
          · have eh : f_X4_has I3 (B + 2 + 4 + 1 + 3 * x) (nI (10 * ten + (X.2 (a + 3) - 48))) = some (bZ (onS (P x) (10 * ten + (X.2 (a + 3) - 48)))) := x4_has hpx3 hsh hp
            rw [isIn_nI hp (by omega), if_neg bZt, eh, bd1s]
            cases ho : onS (P x) (10 * ten + (X.2 (a + 3) - 48)) with
            | true =>
              rw [if_neg bZt]
              exact no (by rw [eO]; unfold okP; rw [ho]; simp)
            | false =>
              have hok : isO X (a + 3) ten (P x) = true := by rw [eO]; unfold okP; rw [ho, decide_eq_true hp]; rfl
              have h4 := (h3.dg (v := nI (X.2 (a + 3) - 48)) hn).mv (b := a + 1 + 1 + 1 + 1) hn
              have epd : f_X6_passDigit I3 (B + 1) (nI 0) (nI 9) = some (1, sI (sI I3 (B + 1) 4 (nI (X.2 (a + 3) - 48))) (B + 1) 3 (nI (a + 1 + 1 + 1 + 1))) := (x6_passDigit hX (by omega) (by omega) (by omega) h3).trans (if_pos hf)
              have epd' : f_X6_passDigit I3 (B + 1) 0 9 = some (1, sI (sI I3 (B + 1) 4 (nI (X.2 (a + 3) - 48))) (B + 1) 3 (nI (a + 1 + 1 + 1 + 1))) := epd
              have o4 : Off I (sI (sI I3 (B + 1) 4 (nI (X.2 (a + 3) - 48))) (B + 1) 3 (nI (a + 1 + 1 + 1 + 1))) (B + 1) 18 := (o3.tr offD).tr offD
              rw [if_pos bZf, epd', bd2s, if_neg (show ¬ (1 : Int32) = 0 by decide), if_pos hok]
              generalize sI (sI I3 (B + 1) 4 (nI (X.2 (a + 3) - 48))) (B + 1) 3 (nI (a + 1 + 1 + 1 + 1)) = I4 at h4 o4
              have hpx4 : PxAt I4 (B + 2 + 4 + 1 + 3 * x) (cR C x) (P x) := h4.2.2.2.2.2.2.2.2.2 x hx
              have h9 : pN (P x) < 9 := by have := hsh.2.1; omega
              obtain ⟨I5, ⟨a1, a2⟩, a3⟩ := x4_addOldest (p := 10 * ten + (X.2 (a + 3) - 48)) hpx4 h9
              rw [a3, bd1s]
              refine ⟨I5, ⟨o4.tr (a2.wid (by omega) (by omega)), ?_, ?_, fun k hk => ?_, h4.2.2.2.px hn hx a1 a2⟩, rfl⟩
              · rw [a2 _ (by omega)]; exact h4.1
              · rw [a2 _ (by omega)]; exact h4.2.1
              · rw [a2 _ (by omega)]; exact h4.2.2.1 k hk
          · rw [isIn_no (v := nI (10 * ten + (X.2 (a + 3) - 48))) (n := 32) (by omega) (Or.inr (by rw [nle (by omega) (by omega)]; omega)), if_pos bZf]
            exact no (by rw [eO]; unfold okP; rw [decide_eq_false hp]; rfl)
        · have hno : isO X (a + 3) ten (P x) = false := by
            unfold isO
            rw [eq_false_of_ne_true hf, Bool.false_and]
          have epd : f_X6_passDigit I3 (B + 1) (nI 0) (nI 9) = some (0, I3) := (x6_passDigit hX (by omega) (by omega) (by omega) h3).trans (if_neg hf)
          have epd' : f_X6_passDigit I3 (B + 1) 0 9 = some (0, I3) := epd
          rw [lt1s, x7_isPage, bd1s]
          cases hp : isIn ((10 : Int32) * nI ten + ltr X (a + 1 + 1 + 1) - 48) 32 with
          | false => rw [if_pos bZf]; exact no hno
          | true =>
            obtain ⟨p, hp32, ep⟩ := isIn_of hp (by omega)
            have eh : f_X4_has I3 (B + 2 + 4 + 1 + 3 * x) (nI p) = some (bZ (onS (P x) p)) := x4_has hpx3 hsh hp32
            rw [if_neg bZt, ep, eh, bd1s, epd', bd2s, if_pos rfl, ite_self]
            exact no hno
    · rw [decide_eq_false hroom, if_pos bZf, if_neg (show ¬ false = true by decide)]
      exact ⟨I1, ⟨o1, h1⟩, rfl⟩
  · have e2' : f_X1_proxyAt I1 (B + 1 + 1) (ltr X (a + 1) - 48) = some none := e2
    rw [e1] at hin
    have hq := of_decide_eq_false hin.symm
    rw [e2', bd1s, mNn, if_neg (show ¬ isX X (a + 1) C P = true from fun q => by
      have := of_decide_eq_true q
      exact hq ⟨this.1, this.2.1, this.2.2.1⟩)]
    exact ⟨I1, ⟨o1, h1⟩, rfl⟩
theorem x6_readPart {I : HI} {B a : Nat} {X : Tx} {C : Cf} {P : Nat → Prx} (hX : WfT X) (hw : WfQ C P) (ha : a < X.1) (h : RdC I B X a C P) : ∃ I', (Off I I' (B + 1) 18 ∧ RdC I' B X (stp X a C P).2.1 (stp X a C P).2.2.1 (stp X a C P).2.2.2) ∧ f_X6_readPart I (B + 1) = some (bZ (stp X a C P).1, I') := by
  have hT := hX.1
  have hn := hw.2.2.2.2.1
  have hv := hX.2 a ha
  have hF := hw.2.2.1
  have eF : I (B + 1 + 1 + 1) 2 = nI (cF C) := h.2.2.2.1.2.2.1
  have eN : I (B + 1 + 1) 2 = nI (cN C) := h.2.2.2.2.1
  have fin : ∀ (r : Bool) (J : HI), (if bZ r = 0 then some ((0 : Int32), J) else some ((1 : Int32), J)) = some (bZ r, J) := by
    intro r J
    cases r with
    | false => rfl
    | true => rfl
  unfold f_X6_readPart stp
  have el : ltr X a = nI (X.2 a) := if_pos ha
  rw [x6_letter hX (by omega) h, bd1s, el, eF, eN]
  by_cases l1 : X.2 a = 104
  · rw [if_pos (show nI (X.2 a) = 104 by rw [l1]; rfl), if_pos l1]
    by_cases h3 : cF C < 3
    · obtain ⟨I', b1, b2⟩ := x6_readFamily hX hw ha h l1 h3
      rw [if_pos (show nI (cF C) < 3 by rw [i_3, nlt (by omega) (by omega)]; exact h3), b2, bd2s, fin]
      exact ⟨I', b1, rfl⟩
    · rw [if_neg (show ¬ nI (cF C) < 3 by rw [i_3, nlt (by omega) (by omega)]; exact h3)]
      unfold stpF
      rw [if_neg h3]
      exact ⟨I, ⟨Off.rf, h⟩, rfl⟩
  · rw [if_neg (show ¬ nI (X.2 a) = 104 by rw [show (104 : Int32) = nI 104 from rfl, neq (by omega) (by omega)]; exact l1), if_neg l1]
    by_cases l2 : X.2 a = 112
    · rw [if_pos (show nI (X.2 a) = 112 by rw [l2]; rfl), if_pos l2]
      by_cases h3 : cN C < 4
      · obtain ⟨I', b1, b2⟩ := x6_readProxy hX hw ha h l2 h3
        rw [if_pos (show nI (cN C) < 4 by rw [i_4, nlt (by omega) (by omega)]; exact h3), b2, bd2s, fin]
        exact ⟨I', b1, rfl⟩
      · rw [if_neg (show ¬ nI (cN C) < 4 by rw [i_4, nlt (by omega) (by omega)]; exact h3)]
        unfold stpP
        rw [if_neg h3]
        exact ⟨I, ⟨Off.rf, h⟩, rfl⟩
    · rw [if_neg (show ¬ nI (X.2 a) = 112 by rw [show (112 : Int32) = nI 112 from rfl, neq (by omega) (by omega)]; exact l2), if_neg l2]
      by_cases l3 : X.2 a = 115
      · have ea : f_X1_anyRoom I (B + 1 + 1) = some (bZ (anyR C P)) := x1_anyRoom hw h.2.2.2
        rw [if_pos (show nI (X.2 a) = 115 by rw [l3]; rfl), if_pos l3, ea, bd1s]
        by_cases hr : anyR C P = true
        · obtain ⟨I', b1, b2⟩ := x6_readShelved hX hw ha h l3 hr
          rw [hr, if_neg bZt, b2, bd2s, fin]
          exact ⟨I', b1, rfl⟩
        · rw [eq_false_of_ne_true hr, if_pos bZf]
          unfold stpS
          rw [if_neg hr]
          exact ⟨I, ⟨Off.rf, h⟩, rfl⟩
      · rw [if_neg (show ¬ nI (X.2 a) = 115 by rw [show (115 : Int32) = nI 115 from rfl, neq (by omega) (by omega)]; exact l3), if_neg l3]
        exact ⟨I, ⟨Off.rf, h⟩, rfl⟩
