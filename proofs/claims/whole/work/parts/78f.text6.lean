/-! the reference reads, whole -/
theorem r8_hasRoom {I : HI} {m x : Nat} {C : Cf} {P : Nat → Prx} (hw : WfQ C P) (h : QR I m C P) (hx : x < cN C) : f_X8_hasRoom I m (nI x) = some (bZ (decide (pN (P x) < cR C x))) := by
  have hn := hw.2.2.2.2.1
  have hR := hw.2.2.2.2.2.1 x hx
  have hs := (hw.2.2.2.2.2.2 x hx).1.1
  have hr : RxAt (I (m + 8)) x (P x) := h.2.2.2.2.1.1 x hx
  unfold f_X8_hasRoom
  rw [i_29, i_9, nmul, nadd, gv (by omega) (by omega), gv (by omega) (by omega), ncl (by omega), ncl (by omega), hr.2.1, h.2.2.2.1 x hx]
  by_cases hlt : pN (P x) < cR C x
  · rw [if_pos (show nI (pN (P x)) < nI (cR C x) by rw [nlt (by omega) (by omega)]; exact hlt), decide_eq_true hlt]; rfl
  · rw [if_neg (show ¬ nI (pN (P x)) < nI (cR C x) by rw [nlt (by omega) (by omega)]; exact hlt), decide_eq_false hlt]; rfl
theorem r8_mayG {I : HI} {m x ten : Nat} {C : Cf} {P : Nat → Prx} {one : Int32} (hw : WfQ C P) (h : QR I m C P) (hx : x < cN C) (ht : ten ≤ 9) (f : Nat → Bool) (hf : ∀ k, k < 10 → f k = decide (one = -9 ∨ one = nI k)) : f_X8_mayCome I m (nI x) (nI ten) one = some (bZ (anyB (fun k => f k && okP (P x) (10 * ten + k)) 10)) := by
  have hn := hw.2.2.2.2.1
  have hs := (hw.2.2.2.2.2.2 x hx).1
  have hr : RxAt (I (m + 8)) x (P x) := h.2.2.2.2.1.1 x hx
  unfold f_X8_mayCome
  refine wl2_to (F := X8_mayCome_B6 I m (nI x) (nI ten) one) (fun i => bZ (anyB (fun k => f k && okP (P x) (10 * ten + k)) i)) (fun i => nI i) (m := 10) (fun i k hi => ?_) (fun k => ?_) 10 0 5000 (by omega) (by omega)
  · have j39 : X8_mayCome_J39 I m (nI x) (nI ten) one (nI i) (nI (10 * ten + i)) k = k (bZ (okP (P x) (10 * ten + i))) (nI (i + 1)) := by
      unfold X8_mayCome_J39 X8_mayCome_J61 X8_mayCome_J65 X8_mayCome_J66 okP
      by_cases hp : 10 * ten + i < 32
      · have hpo := r8_placeOf (I := I) (w := m + 8) hr hs (by omega) hp
        rw [rowS_id] at hpo
        rw [if_pos (show nI (10 * ten + i) < (32 : Int32) by rw [i_32, nlt (by omega) (by omega)]; exact hp), hpo, bd1s, decide_eq_true hp, Bool.true_and]
        unfold onS
        cases hpl : pl (pS (P x)) (10 * ten + i) (pN (P x)) with
        | none => rw [if_pos (show plV none = (-9 : Int32) from rfl), lt1s, ninc]; rfl
        | some q =>
          have hq := (pl_some hpl).1
          rw [if_neg (show ¬ plV (some q) = (-9 : Int32) by show ¬ nI q = m9; rw [nI_m9 (by have := hs.1; have := hs.2.1; omega)]; exact id), lt1s, ninc]
          rfl
      · rw [if_neg (show ¬ nI (10 * ten + i) < (32 : Int32) by rw [i_32, nlt (by omega) (by omega)]; exact hp), decide_eq_false hp, lt1s, ninc]; rfl
    unfold X8_mayCome_B6 X8_mayCome_J61 X8_mayCome_J65 X8_mayCome_J66
    rw [if_pos (show nI i < (10 : Int32) by rw [i_10, nlt (by omega) (by omega)]; exact hi), i_10, nmul, nadd, lt1s, j39, anyB]
    cases anyB (fun k => f k && okP (P x) (10 * ten + k)) i with
    | true => rw [if_neg bZt, lt1s, ninc, Bool.true_or]; rfl
    | false =>
      rw [if_pos bZf, Bool.false_or, hf i hi, lt1s, ninc]
      by_cases h9 : one = -9
      · rw [if_pos h9, decide_eq_true (Or.inl h9), Bool.true_and]
      · rw [if_neg h9]
        by_cases hk : one = nI i
        · rw [if_pos hk, decide_eq_true (Or.inr hk), Bool.true_and]
        · rw [if_neg hk, decide_eq_false (fun q => q.elim h9 hk), Bool.false_and]; rfl
  · unfold X8_mayCome_B6
    rw [if_neg (show ¬ nI 10 < (10 : Int32) by decide), gdt (bZ_zb _)]
theorem r8_may9 {I : HI} {m x ten : Nat} {C : Cf} {P : Nat → Prx} (hw : WfQ C P) (h : QR I m C P) (hx : x < cN C) (ht : ten ≤ 9) : f_X8_mayCome I m (nI x) (nI ten) (-9) = some (bZ (anyB (fun k => okP (P x) (10 * ten + k)) 10)) := by
  have e := r8_mayG (one := -9) hw h hx ht (fun _ => true) (fun k _ => (decide_eq_true (Or.inl rfl)).symm)
  rw [e]
  congr 2
theorem r8_may1 {I : HI} {m x ten one : Nat} {C : Cf} {P : Nat → Prx} (hw : WfQ C P) (h : QR I m C P) (hx : x < cN C) (ht : ten ≤ 9) (ho : one < 10) : f_X8_mayCome I m (nI x) (nI ten) (nI one) = some (bZ (okP (P x) (10 * ten + one))) := by
  have h9 : ¬ nI one = -9 := fun e => (nI_m9 (k := one) (by omega)).mp e
  have e := r8_mayG (one := nI one) hw h hx ht (fun k => decide (one = k)) (fun k hk => decide_eq_decide.mpr (by
    rw [neq (by omega) (by omega)]
    exact ⟨fun q => Or.inr q, fun q => q.elim (fun q => absurd q h9) id⟩))
  rw [e]
  congr 2
  rw [Bool.eq_iff_iff, anyB_iff]
  constructor
  · rintro ⟨k, hk, h1⟩
    rw [Bool.and_eq_true] at h1
    rw [of_decide_eq_true h1.1]; exact h1.2
  · intro h1
    exact ⟨one, ho, by rw [decide_eq_true rfl, h1]; rfl⟩
theorem r8_in3 {v : Nat} (hv : v < 256) : f_X8_in ((nI v - 48).toInt64) 0 3 = some (bZ (decide (48 + 0 ≤ v ∧ v ≤ 48 + 3))) := r8_figIn (lo := 0) (hi := 3) hv (by omega) (by omega)
theorem r8_in9 {v : Nat} (hv : v < 256) : f_X8_in ((nI v - 48).toInt64) 0 9 = some (bZ (decide (48 + 0 ≤ v ∧ v ≤ 48 + 9))) := r8_figIn (lo := 0) (hi := 9) hv (by omega) (by omega)
theorem r8_readShelf {I : HI} {m a : Nat} {X : Tx} {C : Cf} {P : Nat → Prx} (hX : WfT X) (hw : WfQ C P) (ha : a < X.1) (h : RdR I m X a C P) : ∃ I', (OffRr I I' m ∧ RdR I' m X (stpS X a C P).2.1 (stpS X a C P).2.2.1 (stpS X a C P).2.2.2) ∧ f_X8_readShelf I m = some (bZ (stpS X a C P).1, I') := by
  have hT := hX.1
  have hn := hw.2.2.2.2.1
  have w7 := hw.2.2.2.2.2.2
  have key : ∀ k0, ∃ I', (OffRr I I' m ∧ RdR I' m X (stpS X a C P).2.1 (stpS X a C P).2.2.1 (stpS X a C P).2.2.2) ∧ X8_readShelf_B4 I m k0 (bZ (anyR C P)) (nI (cN C)) = some (bZ (stpS X a C P).1, I') := by
    intro k0
    unfold X8_readShelf_B4 stpS
    rw [h.2.1.2.1, if_neg (show ¬ nI (cN C) < nI (cN C) by rw [nlt (by omega) (by omega)]; omega)]
    by_cases hr : anyR C P = true
    · have h1 := h.mv (b := a + 1)
      have o1 : OffRr I (sI I m 3 (nI (a + 1))) m := OffRr.f (by omega)
      rw [hr, if_neg bZt, if_pos rfl, h.1.2.1, ninc, lt1s]
      generalize sI I m 3 (nI (a + 1)) = I1 at h1 o1
      rw [h1.1.2.1, h1.1.1]
      by_cases hl1 : a + 1 < X.1
      · have hv1 := hX.2 _ hl1
        have el1 : ltr X (a + 1) = nI (X.2 (a + 1)) := if_pos hl1
        have ein := r8_inN (nI (X.2 (a + 1)) - 48) (n := cN C) (by omega)
        rw [← el1, ltr_in hX (a + 1), el1] at ein
        rw [if_neg (show ¬ nI (a + 1) = nI X.1 by rw [neq (by omega) (by omega)]; omega), gv (by omega) (by omega), gv (by omega) (by omega), gv (by omega) (by omega), ncl (by omega), h1.1.2.2 _ hl1, h1.2.1.2.1, ein, bd1s]
        by_cases hx0 : a + 1 < X.1 ∧ 48 ≤ X.2 (a + 1) ∧ X.2 (a + 1) < 48 + cN C
        · obtain ⟨-, x1, x2⟩ := hx0
          have hx : X.2 (a + 1) - 48 < cN C := by omega
          have eX : isX X (a + 1) C P = decide (pN (P (X.2 (a + 1) - 48)) < cR C (X.2 (a + 1) - 48)) := by
            unfold isX
            exact decide_eq_decide.mpr ⟨fun q => q.2.2.2, fun q => ⟨hl1, x1, x2, q⟩⟩
          rw [decide_eq_true (show a + 1 < X.1 ∧ 48 ≤ X.2 (a + 1) ∧ X.2 (a + 1) < 48 + cN C from ⟨hl1, x1, x2⟩), if_neg bZt, i_48, nsub x1, r8_hasRoom hw h1.2.1 hx, bd1s, eX]
          generalize hxe : X.2 (a + 1) - 48 = x at hx
          by_cases hroom : pN (P x) < cR C x
          · have h2 := h1.mv (b := a + 2)
            have o2 : OffRr I (sI I1 m 3 (nI (a + 2))) m := o1.tr (OffRr.f (by omega))
            rw [decide_eq_true hroom, if_neg bZt, if_pos rfl, ninc, lt1s, lt1s, show a + 1 + 1 = a + 2 by omega]
            generalize sI I1 m 3 (nI (a + 2)) = I2 at h2 o2
            rw [h2.1.2.1, h2.1.1]
            by_cases hl2 : a + 2 < X.1
            · have hv2 := hX.2 _ hl2
              rw [if_neg (show ¬ nI (a + 2) = nI X.1 by rw [neq (by omega) (by omega)]; omega), gv (by omega) (by omega), gv (by omega) (by omega), gv (by omega) (by omega), ncl (by omega), h2.1.2.2 _ hl2, ← i_48, r8_in3 hv2, bd1s]
              by_cases ht0 : 48 + 0 ≤ X.2 (a + 2) ∧ X.2 (a + 2) ≤ 48 + 3
              · have eT : isT X (a + 2) (P x) = anyB (fun k => okP (P x) (10 * (X.2 (a + 2) - 48) + k)) 10 := by
                  unfold isT
                  have : fg X (a + 2) 0 3 = true := decide_eq_true ⟨hl2, ht0⟩
                  rw [this, Bool.true_and]
                have e48 : nI (X.2 (a + 2)) - (48 : Int32) = nI (X.2 (a + 2) - 48) := by rw [i_48, nsub (by omega)]
                rw [decide_eq_true ht0, if_neg bZt, e48, eT]
                have ht9 : X.2 (a + 2) - 48 ≤ 9 := by omega
                generalize X.2 (a + 2) - 48 = ten at ht9
                rw [r8_may9 hw h2.2.1 hx ht9, bd1s]
                cases hmay : anyB (fun k => okP (P x) (10 * ten + k)) 10 with
                | false =>
                  rw [if_pos bZf, if_neg (show ¬ false = true by decide)]
                  exact ⟨I2, ⟨o2, h2⟩, rfl⟩
                | true =>
                  have h3 := h2.mv (b := a + 3)
                  have o3 : OffRr I (sI I2 m 3 (nI (a + 3))) m := o2.tr (OffRr.f (by omega))
                  rw [if_neg bZt, if_pos (show true = true from rfl), ninc, lt1s, lt1s, show a + 2 + 1 = a + 3 by omega]
                  generalize sI I2 m 3 (nI (a + 3)) = I3 at h3 o3
                  rw [h3.1.2.1, h3.1.1]
                  have no : ∀ b : Bool, b = false → ∃ I', (OffRr I I' m ∧ RdR I' m X (if b = true then ((true, a + 4, C, psh P x (10 * ten + (X.2 (a + 3) - 48))) : Rs) else (false, a + 3, C, P)).2.1 (if b = true then ((true, a + 4, C, psh P x (10 * ten + (X.2 (a + 3) - 48))) : Rs) else (false, a + 3, C, P)).2.2.1 (if b = true then ((true, a + 4, C, psh P x (10 * ten + (X.2 (a + 3) - 48))) : Rs) else (false, a + 3, C, P)).2.2.2) ∧ some ((0 : Int32), I3) = some (bZ (if b = true then ((true, a + 4, C, psh P x (10 * ten + (X.2 (a + 3) - 48))) : Rs) else (false, a + 3, C, P)).1, I') := fun b q => by
                    subst q
                    rw [if_neg (show ¬ false = true by decide)]
                    exact ⟨I3, ⟨o3, h3⟩, rfl⟩
                  by_cases hl3 : a + 3 < X.1
                  · have hv3 := hX.2 _ hl3
                    rw [if_neg (show ¬ nI (a + 3) = nI X.1 by rw [neq (by omega) (by omega)]; omega), gv (by omega) (by omega), gv (by omega) (by omega), gv (by omega) (by omega), ncl (by omega), h3.1.2.2 _ hl3, r8_in9 hv3, bd1s]
                    by_cases ho0 : 48 + 0 ≤ X.2 (a + 3) ∧ X.2 (a + 3) ≤ 48 + 9
                    · have e48 : nI (X.2 (a + 3)) - (48 : Int32) = nI (X.2 (a + 3) - 48) := by rw [i_48, nsub (by omega)]
                      have eO : isO X (a + 3) ten (P x) = okP (P x) (10 * ten + (X.2 (a + 3) - 48)) := by
                        unfold isO
                        have : fg X (a + 3) 0 9 = true := decide_eq_true ⟨hl3, ho0⟩
                        rw [this, Bool.true_and]
                      rw [decide_eq_true ho0, if_neg bZt, e48, r8_may1 hw h3.2.1 hx ht9 (by omega), bd1s, eO]
                      cases hok : okP (P x) (10 * ten + (X.2 (a + 3) - 48)) with
                      | false => rw [if_pos bZf]; exact no false rfl
                      | true =>
                        have hsh := (w7 x hx).1
                        have h9 : pN (P x) < 9 := by have := hsh.2.1; omega
                        obtain ⟨⟨t0, t1, t2⟩, ⟨q0, q1, q2, q3, q4, q5⟩, mk⟩ := id h3
                        have hrx : RxAt (I3 (m + 8)) x (P x) := q4.1 x hx
                        have ev : (10 : Int32) * nI ten + nI (X.2 (a + 3)) - 48 = nI (10 * ten + (X.2 (a + 3) - 48)) := by
                          rw [i_10, nmul, nadd, i_48, nsub (by omega)]
                          congr 1
                          omega
                        rw [if_neg bZt, if_pos (show true = true from rfl), i_29, i_9, nmul, nadd, gv (by omega) (by omega), ncl (by omega), hrx.2.1, nadd, gv (by omega) (by omega), lt1s, ncl (by omega), ev, gv (by omega) (by omega), gv (by omega) (by omega), sI_eq, uR_ne (by omega), hrx.2.1, ninc, lt1s, sI_ne (by omega), sI_ne (by omega), t1, ninc, lt1s]
                        generalize 10 * ten + (X.2 (a + 3) - 48) = p
                        refine ⟨_, ⟨((o3.tr (OffRr.r (by omega))).tr (OffRr.r (by omega))).tr (OffRr.f (by omega)), ⟨?_, ?_, fun k hk => ?_⟩, ⟨?_, ?_, fun f hf => ?_, fun y hy => ?_, ?_, fun j j1 j2 => ?_⟩, ⟨?_, ?_⟩⟩, rfl⟩
                        · rw [sI_eq, uR_ne (by omega), sI_ne (by omega), sI_ne (by omega)]; exact t0
                        · rw [sI_eq, uR_eq]
                        · rw [sI_ne (by omega), sI_ne (by omega), sI_ne (by omega)]; exact t2 k hk
                        · rw [sI_eq, uR_ne (by omega), sI_ne (by omega), sI_ne (by omega)]; exact q0
                        · rw [sI_eq, uR_ne (by omega), sI_ne (by omega), sI_ne (by omega)]; exact q1
                        · rw [sI_ne (by omega), sI_ne (by omega), sI_ne (by omega), sI_ne (by omega), sI_ne (by omega), sI_ne (by omega)]; exact q2 f hf
                        · rw [sI_ne (by omega), sI_ne (by omega), sI_ne (by omega)]; exact q3 y hy
                        · rw [sI_ne (by omega), sI_eq, sI_eq]
                          refine RnAt.px (x := x) (P := pshP p (P x)) (r := I3 (m + 8)) hn q4 hx ?_ ((ROff.u (by omega)).tr (ROff.u (by omega)))
                          obtain ⟨p0, p1, p2, p3, p4, p5, p6⟩ := hrx
                          refine ⟨fun k hk => ?_, ?_, fun c hc => ?_, ?_, ?_, ?_, ?_⟩
                          · have hk' : k < pN (P x) + 1 := hk
                            show _ = nI (if k = pN (P x) then p else pS (P x) k)
                            rw [uR_ne (by omega)]
                            by_cases hkn : k = pN (P x)
                            · rw [if_pos hkn, hkn]; exact uR_eq _ _ _
                            · rw [if_neg hkn, uR_ne (by omega)]; exact p0 k (by omega)
                          · rw [uR_eq]; rfl
                          · rw [uR_ne (by omega), uR_ne (by omega)]; exact p2 c hc
                          · rw [uR_ne (by omega), uR_ne (by omega)]; exact p3
                          · rw [uR_ne (by omega), uR_ne (by omega)]; exact p4
                          · rw [uR_ne (by omega), uR_ne (by omega)]; exact p5
                          · show pN (P x) + 1 ≤ 9; omega
                        · have j1' : 29 * cN C ≤ j := j1
                          rw [sI_ne (by omega), sI_eq, sI_eq, uR_ne (by omega), uR_ne (by omega)]; exact q5 j j1' j2
                        · rw [sI_eq, uR_ne (by omega), sI_ne (by omega), sI_ne (by omega)]; exact mk.1
                        · rw [sI_eq, uR_ne (by omega), sI_ne (by omega), sI_ne (by omega)]; exact mk.2
                    · rw [decide_eq_false ho0, if_pos bZf]
                      refine no (isO X (a + 3) ten (P x)) ?_
                      unfold isO
                      have : fg X (a + 3) 0 9 = false := decide_eq_false (fun q => ho0 q.2)
                      rw [this, Bool.false_and]
                  · rw [if_pos (show nI (a + 3) = nI X.1 by rw [show a + 3 = X.1 by omega])]
                    refine no (isO X (a + 3) ten (P x)) ?_
                    unfold isO
                    have : fg X (a + 3) 0 9 = false := decide_eq_false (fun q => hl3 q.1)
                    rw [this, Bool.false_and]
              · have eT : ¬ isT X (a + 2) (P x) = true := fun q => ht0 (fgE ((Bool.and_eq_true _ _).mp q).1).2
                rw [decide_eq_false ht0, if_pos bZf, if_neg eT]
                exact ⟨I2, ⟨o2, h2⟩, rfl⟩
            · have eT : ¬ isT X (a + 2) (P x) = true := fun q => hl2 (fgE ((Bool.and_eq_true _ _).mp q).1).1
              rw [if_pos (show nI (a + 2) = nI X.1 by rw [show a + 2 = X.1 by omega]), if_neg eT]
              exact ⟨I2, ⟨o2, h2⟩, rfl⟩
          · rw [decide_eq_false hroom, if_pos bZf, if_neg (show ¬ false = true by decide)]
            exact ⟨I1, ⟨o1, h1⟩, rfl⟩
        · have eX : ¬ isX X (a + 1) C P = true := fun q => by
            have := of_decide_eq_true q
            exact hx0 ⟨this.1, this.2.1, this.2.2.1⟩
          rw [decide_eq_false hx0, if_pos bZf, if_neg eX]
          exact ⟨I1, ⟨o1, h1⟩, rfl⟩
      · have eX : ¬ isX X (a + 1) C P = true := fun q => hl1 (of_decide_eq_true q).1
        rw [if_pos (show nI (a + 1) = nI X.1 by rw [show a + 1 = X.1 by omega]), if_neg eX]
        exact ⟨I1, ⟨o1, h1⟩, rfl⟩
    · rw [eq_false_of_ne_true hr, if_pos bZf, if_neg (show ¬ false = true by decide)]
      exact ⟨I, ⟨OffRr.rf, h⟩, rfl⟩
  -- the search for a room
  have run : ∀ (j i M : Nat), i + j = cN C → j < M → wl2 (X8_readShelf_B4 I m) M (bZ (anyB (fun x => decide (pN (P x) < cR C x)) i)) (nI i) = X8_readShelf_B4 I m (fun _ _ => none) (bZ (anyR C P)) (nI (cN C)) := by
    intro j
    induction j with
    | zero =>
      intro i M hi hM
      obtain ⟨M, rfl⟩ : ∃ K, M = K + 1 := ⟨M - 1, by omega⟩
      have e : i = cN C := by omega
      subst e
      rw [wl2_0]
      unfold X8_readShelf_B4
      rw [h.2.1.2.1, if_neg (show ¬ nI (cN C) < nI (cN C) by rw [nlt (by omega) (by omega)]; omega), if_neg (show ¬ nI (cN C) < nI (cN C) by rw [nlt (by omega) (by omega)]; omega)]
      rfl
    | succ j ih =>
      intro i M hi hM
      obtain ⟨M, rfl⟩ : ∃ K, M = K + 1 := ⟨M - 1, by omega⟩
      have ih' := ih (i + 1) M (by omega) (by omega)
      have hi' : i < cN C := by omega
      rw [← ih', wl2_0]
      generalize wl2 (X8_readShelf_B4 I m) M = K
      conv => lhs; unfold X8_readShelf_B4
      unfold X8_readShelf_J24 X8_readShelf_J29
      rw [h.2.1.2.1, if_pos (show nI i < nI (cN C) by rw [nlt (by omega) (by omega)]; exact hi'), anyB]
      cases anyB (fun x => decide (pN (P x) < cR C x)) i with
      | true => rw [if_neg bZt, lt1s, ninc]; rfl
      | false =>
        rw [if_pos bZf, r8_hasRoom hw h.2.1 hi', bd1s, lt1s, lt1s, ninc, Bool.false_or]
        cases decide (pN (P i) < cR C i) with
        | true => rw [if_neg bZt]; rfl
        | false => rw [if_pos bZf]; rfl
  obtain ⟨I', b1, b2⟩ := key (fun _ _ => none)
  exact ⟨I', b1, (run (cN C) 0 5000 (by omega) (by omega)).trans b2⟩
theorem r8_readPart {I : HI} {m a : Nat} {X : Tx} {C : Cf} {P : Nat → Prx} (hX : WfT X) (hw : WfQ C P) (ha : a < X.1) (h : RdR I m X a C P) : ∃ I', (OffRr I I' m ∧ RdR I' m X (stp X a C P).2.1 (stp X a C P).2.2.1 (stp X a C P).2.2.2) ∧ f_X8_readPart I m = some (bZ (stp X a C P).1, I') := by
  have hT := hX.1
  have hv := hX.2 a ha
  unfold f_X8_readPart stp
  rw [h.1.2.1, gv (by omega) (by omega), ncl (by omega), h.1.2.2 a ha]
  by_cases l1 : X.2 a = 104
  · obtain ⟨I', b1, b2⟩ := r8_readFamily hX hw ha h
    rw [if_pos (show nI (X.2 a) = 104 by rw [l1]; rfl), if_pos l1, b2, bd2s, gdt (bZ_zb _)]
    exact ⟨I', b1, rfl⟩
  · rw [if_neg (show ¬ nI (X.2 a) = 104 by rw [show (104 : Int32) = nI 104 from rfl, neq (by omega) (by omega)]; exact l1), if_neg l1]
    by_cases l2 : X.2 a = 112
    · obtain ⟨I', b1, b2⟩ := r8_readProxy hX hw ha h
      rw [if_pos (show nI (X.2 a) = 112 by rw [l2]; rfl), if_pos l2, b2, bd2s, gdt (bZ_zb _)]
      exact ⟨I', b1, rfl⟩
    · rw [if_neg (show ¬ nI (X.2 a) = 112 by rw [show (112 : Int32) = nI 112 from rfl, neq (by omega) (by omega)]; exact l2), if_neg l2]
      by_cases l3 : X.2 a = 115
      · obtain ⟨I', b1, b2⟩ := r8_readShelf hX hw ha h
        rw [if_pos (show nI (X.2 a) = 115 by rw [l3]; rfl), if_pos l3, b2, bd2s, gdt (bZ_zb _)]
        exact ⟨I', b1, rfl⟩
      · rw [if_neg (show ¬ nI (X.2 a) = 115 by rw [show (115 : Int32) = nI 115 from rfl, neq (by omega) (by omega)]; exact l3), if_neg l3]
        exact ⟨I, ⟨OffRr.rf, h⟩, rfl⟩
theorem QR.k {I : HI} {m k : Nat} {v : Int32} {C : Cf} {P : Nat → Prx} (hk : k ≠ 13) (hk2 : k ≠ 16) (h : QR I m C P) : QR (sI I m k v) m C P := by
  obtain ⟨h0, h1, h2, h3, h4, h5⟩ := h
  exact ⟨by rw [sI_eq, uR_ne hk.symm]; exact h0, by rw [sI_eq, uR_ne hk2.symm]; exact h1, fun f hf => by rw [sI_ne (by omega), sI_ne (by omega)]; exact h2 f hf, fun x hx => by rw [sI_ne (by omega)]; exact h3 x hx, by rw [sI_ne (by omega)]; exact h4, fun j h6 h7 => by rw [sI_ne (by omega)]; exact h5 j h6 h7⟩
theorem TdR.k {I : HI} {m k a : Nat} {v : Int32} {X : Tx} (hk : 4 ≤ k) (h : TdR I m X a) : TdR (sI I m k v) m X a := ⟨by rw [sI_eq, uR_ne (by omega)]; exact h.1, by rw [sI_eq, uR_ne (by omega)]; exact h.2.1, fun k hk => by rw [sI_ne (by omega)]; exact h.2.2 k hk⟩
theorem r8_readHead {I : HI} {m : Nat} {X : Tx} (hX : WfT X) (h : TdR I m X 0) (hq : ∀ M K, QR I m (cf0 M K) px0) : ∃ I', (OffRr I I' m ∧ TdR I' m X (hd X).2.1 ∧ ((hd X).1 = true → RdR I' m X 4 (cf0 (hd X).2.2.1 (hd X).2.2.2) px0)) ∧ f_X8_readHead I m = some (bZ (hd X).1, I') := by
  have hT := hX.1
  have nf : ∀ {J : HI} {a : Nat}, TdR J m X a → OffRr I J m → ∃ I', (OffRr I I' m ∧ TdR I' m X a ∧ (false = true → RdR I' m X 4 (cf0 0 0) px0)) ∧ some ((0 : Int32), J) = some (bZ false, I') := fun hj oj => ⟨_, ⟨oj, hj, fun q => absurd q Bool.false_ne_true⟩, rfl⟩
  unfold f_X8_readHead hd
  rw [h.1]
  by_cases hz : X.1 = 0
  · rw [if_pos (show nI X.1 = 0 by rw [hz]; rfl), if_neg (fun q => by omega)]
    exact nf h OffRr.rf
  · rw [if_neg (show ¬ nI X.1 = 0 by rw [n0eq (by omega)]; exact hz), i_0, gv (by omega) (by omega), ncl (by omega), h.2.2 0 (by omega)]
    have hv0 := hX.2 0 (by omega)
    by_cases h78 : X.2 0 = 78
    · have h1 : TdR (sI I m 3 1) m X 1 := h.mv (b := 1)
      have q1 : ∀ M K, QR (sI I m 3 1) m (cf0 M K) px0 := fun M K => (hq M K).mv (b := 1)
      have o1 : OffRr I (sI I m 3 1) m := OffRr.f (by omega)
      rw [if_pos (show nI (X.2 0) = 78 by rw [h78]; rfl), if_pos (show 0 < X.1 ∧ X.2 0 = 78 from ⟨by omega, h78⟩), lt1s]
      generalize sI I m 3 1 = I1 at h1 o1 q1
      have p1 : f_X8_isFigure I1 m (nI 0) 1 = if fg X 1 0 1 = true then some (1, sI I1 m 3 (nI 2)) else some (0, I1) := r8_isFigure (lo := 0) (hi := 1) hX (by omega) (by omega) (by omega) h1
      rw [p1]
      by_cases b1 : fg X 1 0 1 = true
      · obtain ⟨g1, g2, g3⟩ := fgE b1
        have h2 : TdR (sI I1 m 3 (nI 2)) m X 2 := h1.mv
        have q2 : ∀ M K, QR (sI I1 m 3 (nI 2)) m (cf0 M K) px0 := fun M K => (q1 M K).mv
        have o2 : OffRr I (sI I1 m 3 (nI 2)) m := o1.tr (OffRr.f (by omega))
        rw [if_pos b1, if_pos b1, bd2s, if_neg (show ¬ (1 : Int32) = nI 0 by decide)]
        generalize sI I1 m 3 (nI 2) = I2 at h2 o2 q2
        have tk : f_X8_taken I2 m 1 = some (nI (X.2 1 - 48)) := r8_taken (b := 1) (a := 2) hX (by omega) g1 (by omega) h2
        rw [tk, bd1s]
        have main : ∀ lo hi : Nat, lo ≤ 9 → hi ≤ 9 → ∃ I', (OffRr I I' m ∧ TdR I' m X (if fg X 2 lo hi = true then (if fg X 3 1 3 = true then ((true, 4, 10 * (X.2 1 - 48) + (X.2 2 - 48), X.2 3 - 48) : Bool × Nat × Nat × Nat) else (false, 3, 0, 0)) else (false, 2, 0, 0)).2.1 ∧ ((if fg X 2 lo hi = true then (if fg X 3 1 3 = true then ((true, 4, 10 * (X.2 1 - 48) + (X.2 2 - 48), X.2 3 - 48) : Bool × Nat × Nat × Nat) else (false, 3, 0, 0)) else (false, 2, 0, 0)).1 = true → RdR I' m X 4 (cf0 (if fg X 2 lo hi = true then (if fg X 3 1 3 = true then ((true, 4, 10 * (X.2 1 - 48) + (X.2 2 - 48), X.2 3 - 48) : Bool × Nat × Nat × Nat) else (false, 3, 0, 0)) else (false, 2, 0, 0)).2.2.1 (if fg X 2 lo hi = true then (if fg X 3 1 3 = true then ((true, 4, 10 * (X.2 1 - 48) + (X.2 2 - 48), X.2 3 - 48) : Bool × Nat × Nat × Nat) else (false, 3, 0, 0)) else (false, 2, 0, 0)).2.2.2) px0)) ∧ X8_readHead_J71 I2 m m (nI lo) (nI hi) = some (bZ (if fg X 2 lo hi = true then (if fg X 3 1 3 = true then ((true, 4, 10 * (X.2 1 - 48) + (X.2 2 - 48), X.2 3 - 48) : Bool × Nat × Nat × Nat) else (false, 3, 0, 0)) else (false, 2, 0, 0)).1, I') := by
          intro lo hi hlo hhi
          unfold X8_readHead_J71
          have p2 : f_X8_isFigure I2 m (nI lo) (nI hi) = if fg X 2 lo hi = true then some (1, sI I2 m 3 (nI 3)) else some (0, I2) := r8_isFigure hX (by omega) hlo hhi h2
          rw [p2]
          by_cases b2 : fg X 2 lo hi = true
          · obtain ⟨k1, k2, k3⟩ := fgE b2
            have h3 : TdR (sI I2 m 3 (nI 3)) m X 3 := h2.mv
            have q3 : ∀ M K, QR (sI I2 m 3 (nI 3)) m (cf0 M K) px0 := fun M K => (q2 M K).mv
            have o3 : OffRr I (sI I2 m 3 (nI 3)) m := o2.tr (OffRr.f (by omega))
            rw [if_pos b2, if_pos b2, bd2s, if_neg (show ¬ (1 : Int32) = 0 by decide)]
            generalize sI I2 m 3 (nI 3) = I3 at h3 o3 q3
            have tk2 : f_X8_taken I3 m 2 = some (nI (X.2 1 - 48)) := r8_taken (b := 2) (a := 3) hX (by omega) g1 (by omega) h3
            have tk1 : f_X8_taken I3 m 1 = some (nI (X.2 2 - 48)) := r8_taken (b := 1) (a := 3) hX (by omega) k1 (show 48 ≤ X.2 2 by omega) h3
            rw [tk2, bd1s, tk1, bd1s, i_10, nmul, nadd, lt1s]
            have h4 : TdR (sI I3 m 11 (nI (10 * (X.2 1 - 48) + (X.2 2 - 48)))) m X 3 := h3.k (by omega)
            have q4 : ∀ M K, QR (sI I3 m 11 (nI (10 * (X.2 1 - 48) + (X.2 2 - 48)))) m (cf0 M K) px0 := fun M K => (q3 M K).k (by omega) (by omega)
            have o4 : OffRr I (sI I3 m 11 (nI (10 * (X.2 1 - 48) + (X.2 2 - 48)))) m := o3.tr (OffRr.f (by omega))
            have e11 : sI I3 m 11 (nI (10 * (X.2 1 - 48) + (X.2 2 - 48))) m 11 = nI (10 * (X.2 1 - 48) + (X.2 2 - 48)) := by rw [sI_eq, uR_eq]
            generalize sI I3 m 11 (nI (10 * (X.2 1 - 48) + (X.2 2 - 48))) = I4 at h4 o4 q4 e11
            have p3 : f_X8_isFigure I4 m 1 3 = if fg X 3 1 3 = true then some (1, sI I4 m 3 (nI 4)) else some (0, I4) := r8_isFigure (lo := 1) (hi := 3) hX (by omega) (by omega) (by omega) h4
            rw [p3]
            by_cases b3 : fg X 3 1 3 = true
            · obtain ⟨l1, l2, l3⟩ := fgE b3
              have h5 : TdR (sI I4 m 3 (nI 4)) m X 4 := h4.mv
              have q5 : ∀ M K, QR (sI I4 m 3 (nI 4)) m (cf0 M K) px0 := fun M K => (q4 M K).mv
              have o5 : OffRr I (sI I4 m 3 (nI 4)) m := o4.tr (OffRr.f (by omega))
              have e5 : sI I4 m 3 (nI 4) m 11 = nI (10 * (X.2 1 - 48) + (X.2 2 - 48)) := by rw [sI_eq, uR_ne (by omega)]; exact e11
              rw [if_pos b3, if_pos b3, bd2s, if_neg (show ¬ (1 : Int32) = 0 by decide)]
              generalize sI I4 m 3 (nI 4) = I5 at h5 o5 q5 e5
              have tk3 : f_X8_taken I5 m 1 = some (nI (X.2 3 - 48)) := r8_taken (b := 1) (a := 4) hX (by omega) l1 (show 48 ≤ X.2 3 by omega) h5
              rw [tk3, bd1s, lt1s]
              exact ⟨_, ⟨o5.tr (OffRr.f (by omega)), h5.k (by omega), fun _ => ⟨h5.k (by omega), (q5 _ _).k (by omega) (by omega), by rw [sI_eq, uR_ne (by omega)]; exact e5, by rw [sI_eq, uR_eq]; rfl⟩⟩, rfl⟩
            · rw [if_neg b3, if_neg b3, bd2s, if_pos rfl]
              exact nf h4 o4
          · rw [if_neg b2, if_neg b2, bd2s, if_pos rfl]
            exact nf h2 o2
        by_cases hl : X.2 1 = 48
        · rw [if_pos (show nI (X.2 1 - 48) = nI 0 by rw [hl]), if_pos hl, if_pos hl]
          unfold X8_readHead_J49 X8_readHead_J60
          rw [if_neg (show ¬ (1 : Int32) = 0 by decide), if_neg (show ¬ (1 : Int32) = 0 by decide)]
          exact main 4 9 (by omega) (by omega)
        · rw [if_neg (show ¬ nI (X.2 1 - 48) = nI 0 by rw [neq (by omega) (by omega)]; omega), if_neg hl, if_neg hl]
          unfold X8_readHead_J49 X8_readHead_J60
          rw [if_pos (show nI 0 = 0 from rfl), if_pos (show nI 0 = 0 from rfl)]
          exact main 0 6 (by omega) (by omega)
      · rw [if_neg b1, if_neg b1, bd2s, if_pos (show (0 : Int32) = nI 0 from rfl)]
        exact nf h1 o1
    · rw [if_neg (show ¬ nI (X.2 0) = 78 by rw [i_78, neq (by omega) (by omega)]; exact h78), if_neg (fun q => h78 q.2)]
      exact nf h OffRr.rf
