/-! the reference reads -/
theorem sI_id (I : HI) (a k : Nat) : sI I a k (I a k) = I := by
  funext q
  by_cases h : q = a
  · subst h
    rw [sI_eq]
    funext j
    by_cases hj : j = k
    · subst hj; exact uR_eq _ _ _
    · exact uR_ne hj
  · exact sI_ne h
def TdR (I : HI) (m : Nat) (X : Tx) (a : Nat) : Prop := I m 2 = nI X.1 ∧ I m 3 = nI a ∧ ∀ k, k < X.1 → I (m + 1) k = nI (X.2 k)
def QR (I : HI) (m : Nat) (C : Cf) (P : Nat → Prx) : Prop := I m 13 = nI (cF C) ∧ I m 16 = nI (cN C) ∧ (∀ f, f < cF C → I (m + 5) f = nI (cA C f) ∧ I (m + 6) f = nI (cB C f)) ∧ (∀ x, x < cN C → I (m + 7) x = nI (cR C x)) ∧ RnAt (I (m + 8)) C (Nz P) ∧ ∀ j, 29 * cN C ≤ j → j < 121 → I (m + 8) j = 0
def MK (I : HI) (m : Nat) (C : Cf) : Prop := I m 11 = nI (cM C) ∧ I m 12 = nI (cK C)
def RdR (I : HI) (m : Nat) (X : Tx) (a : Nat) (C : Cf) (P : Nat → Prx) : Prop := TdR I m X a ∧ QR I m C P ∧ MK I m C
def OffRr (I I' : HI) (m : Nat) : Prop := (∀ z, z ≠ m → ¬ (m + 5 ≤ z ∧ z < m + 9) → I' z = I z) ∧ ∀ k, k ≠ 0 → k ≠ 3 → ¬ (11 ≤ k ∧ k < 17) → I' m k = I m k
theorem OffRr.rf {I : HI} {m : Nat} : OffRr I I m := ⟨fun _ _ _ => rfl, fun _ _ _ _ => rfl⟩
theorem OffRr.tr {I I1 I2 : HI} {m : Nat} (h1 : OffRr I I1 m) (h2 : OffRr I1 I2 m) : OffRr I I2 m := ⟨fun z a b => (h2.1 z a b).trans (h1.1 z a b), fun k a b c => (h2.2 k a b c).trans (h1.2 k a b c)⟩
theorem OffRr.f {I : HI} {m k : Nat} {v : Int32} (h : k = 0 ∨ k = 3 ∨ (11 ≤ k ∧ k < 17)) : OffRr I (sI I m k v) m := ⟨fun z a _ => sI_ne a, fun j a b c => by rw [sI_eq, uR_ne (by omega)]⟩
theorem OffRr.r {I : HI} {m q k : Nat} {v : Int32} (h : m + 5 ≤ q ∧ q < m + 9) : OffRr I (sI I q k v) m := ⟨fun z a b => sI_ne (by omega), fun j a b c => by rw [sI_ne (by omega)]⟩
theorem TdR.mv {I : HI} {m a b : Nat} {X : Tx} (h : TdR I m X a) : TdR (sI I m 3 (nI b)) m X b := ⟨by rw [sI_eq, uR_ne (by omega)]; exact h.1, by rw [sI_eq, uR_eq], fun k hk => by rw [sI_ne (by omega)]; exact h.2.2 k hk⟩
theorem QR.mv {I : HI} {m b : Nat} {C : Cf} {P : Nat → Prx} (h : QR I m C P) : QR (sI I m 3 (nI b)) m C P := by
  obtain ⟨h0, h1, h2, h3, h4, h5⟩ := h
  exact ⟨by rw [sI_eq, uR_ne (by omega)]; exact h0, by rw [sI_eq, uR_ne (by omega)]; exact h1, fun f hf => by rw [sI_ne (by omega), sI_ne (by omega)]; exact h2 f hf, fun x hx => by rw [sI_ne (by omega)]; exact h3 x hx, by rw [sI_ne (by omega)]; exact h4, fun j h6 h7 => by rw [sI_ne (by omega)]; exact h5 j h6 h7⟩
theorem MK.mv {I : HI} {m b : Nat} {C : Cf} (h : MK I m C) : MK (sI I m 3 (nI b)) m C := ⟨by rw [sI_eq, uR_ne (by omega)]; exact h.1, by rw [sI_eq, uR_ne (by omega)]; exact h.2⟩
theorem RdR.mv {I : HI} {m a b : Nat} {X : Tx} {C : Cf} {P : Nat → Prx} (h : RdR I m X a C P) : RdR (sI I m 3 (nI b)) m X b C P := ⟨h.1.mv, h.2.1.mv, h.2.2.mv⟩
theorem r8_figIn {v lo hi : Nat} (hv : v < 256) (hlo : lo ≤ 9) (hhi : hi ≤ 9) : f_X8_in ((nI v - 48).toInt64) (nI lo).toInt64 (nI hi).toInt64 = some (bZ (decide (48 + lo ≤ v ∧ v ≤ 48 + hi))) := by
  rw [r8_in, Int32.toInt_toInt64, Int32.toInt_toInt64, sub48 hv]
  have e1 : (nI lo).toInt = lo := nI_toInt (by omega)
  have e2 : (nI hi).toInt = hi := nI_toInt (by omega)
  rw [e1, e2]
  congr 2
  exact decide_eq_decide.mpr (by omega)
theorem r8_isFigure {I : HI} {m a lo hi : Nat} {X : Tx} (hX : WfT X) (ha : a < 1000) (hlo : lo ≤ 9) (hhi : hi ≤ 9) (h : TdR I m X a) : f_X8_isFigure I m (nI lo) (nI hi) = if fg X a lo hi = true then some (1, sI I m 3 (nI (a + 1))) else some (0, I) := by
  have hT := hX.1
  have e0 : sI I m 3 (nI a + 0) = I := by
    rw [Int32.add_zero, ← h.2.1, sI_id]
  unfold f_X8_isFigure X8_isFigure_J38 X8_isFigure_J39 X8_isFigure_J54
  rw [h.2.1, h.1]
  by_cases hl : a < X.1
  · have hv := hX.2 a hl
    rw [if_pos (show nI a < nI X.1 by rw [nlt (by omega) (by omega)]; exact hl), gv (by omega) (by omega), ncl (by omega), h.2.2 a hl, r8_figIn hv hlo hhi, bd1s]
    by_cases hf : 48 + lo ≤ X.2 a ∧ X.2 a ≤ 48 + hi
    · have hfg : fg X a lo hi = true := decide_eq_true ⟨hl, hf⟩
      rw [decide_eq_true hf, if_neg bZt, if_neg (show ¬ (1 : Int32) = 0 by decide), if_pos hfg, lt1s, gzb1, i_1, nadd]
    · have hfg : ¬ fg X a lo hi = true := fun q => hf (of_decide_eq_true q).2
      rw [decide_eq_false hf, if_pos bZf, if_pos (show (0 : Int32) = 0 from rfl), if_neg hfg, lt1s, gzb0, e0]
  · have hfg : ¬ fg X a lo hi = true := fun q => hl (of_decide_eq_true q).1
    rw [if_neg (show ¬ nI a < nI X.1 by rw [nlt (by omega) (by omega)]; exact hl), if_pos (show (0 : Int32) = 0 from rfl), if_neg hfg, lt1s, gzb0, e0]
theorem r8_taken {I : HI} {m a b : Nat} {X : Tx} (hX : WfT X) (hb : b ≤ a) (ha : a - b < X.1) (h48 : 48 ≤ X.2 (a - b)) (h : TdR I m X a) : f_X8_taken I m (nI b) = some (nI (X.2 (a - b) - 48)) := by
  have hT := hX.1
  unfold f_X8_taken
  rw [h.2.1, nsub hb, gv (by omega) (by omega), ncl (by omega), h.2.2 _ ha, i_48, nsub h48]
theorem r8_readFamily {I : HI} {m a : Nat} {X : Tx} {C : Cf} {P : Nat → Prx} (hX : WfT X) (hw : WfQ C P) (ha : a < X.1) (h : RdR I m X a C P) : ∃ I', (OffRr I I' m ∧ RdR I' m X (stpF X a C P).2.1 (stpF X a C P).2.2.1 (stpF X a C P).2.2.2) ∧ f_X8_readFamily I m = some (bZ (stpF X a C P).1, I') := by
  have hT := hX.1
  have h3 := hw.2.2.1
  unfold f_X8_readFamily stpF
  rw [h.2.1.1]
  by_cases hF : cF C < 3
  · have h1 := h.mv (b := a + 1)
    have o1 : OffRr I (sI I m 3 (nI (a + 1))) m := OffRr.f (by omega)
    rw [if_neg (show ¬ nI (cF C) = 3 by rw [i_3, neq (by omega) (by omega)]; omega), if_pos hF, h.1.2.1, ninc, lt1s]
    generalize sI I m 3 (nI (a + 1)) = I1 at h1 o1
    have p1 : f_X8_isFigure I1 m 1 9 = if fg X (a + 1) 1 9 = true then some (1, sI I1 m 3 (nI (a + 2))) else some (0, I1) := r8_isFigure (lo := 1) (hi := 9) hX (by omega) (by omega) (by omega) h1.1
    rw [p1]
    by_cases f1 : fg X (a + 1) 1 9 = true
    · obtain ⟨g1, g2, g3⟩ := fgE f1
      have h2 := h1.mv (b := a + 2)
      have o2 : OffRr I (sI I1 m 3 (nI (a + 2))) m := o1.tr (OffRr.f (by omega))
      rw [if_pos f1, if_pos f1, bd2s, if_neg (show ¬ (1 : Int32) = 0 by decide)]
      generalize sI I1 m 3 (nI (a + 2)) = I2 at h2 o2
      have p2 : f_X8_isFigure I2 m 0 9 = if fg X (a + 2) 0 9 = true then some (1, sI I2 m 3 (nI (a + 3))) else some (0, I2) := r8_isFigure (lo := 0) (hi := 9) hX (by omega) (by omega) (by omega) h2.1
      rw [p2]
      by_cases f2 : fg X (a + 2) 0 9 = true
      · obtain ⟨k1, k2, k3⟩ := fgE f2
        have h4 := h2.mv (b := a + 3)
        have o4 : OffRr I (sI I2 m 3 (nI (a + 3))) m := o2.tr (OffRr.f (by omega))
        rw [if_pos f2, if_pos f2, bd2s, if_neg (show ¬ (1 : Int32) = 0 by decide)]
        generalize sI I2 m 3 (nI (a + 3)) = I3 at h4 o4
        obtain ⟨⟨t0, t1, t2⟩, ⟨q0, q1, q2, q3, q4, q5⟩, mk⟩ := id h4
        have tk2 : f_X8_taken I3 m 2 = some (nI (X.2 (a + 1) - 48)) := r8_taken (b := 2) (a := a + 3) hX (by omega) (show a + 3 - 2 < X.1 by omega) (show 48 ≤ X.2 (a + 3 - 2) from by rw [show a + 3 - 2 = a + 1 by omega]; omega) h4.1
        have h5 : TdR (sI I3 (m + 5) (cF C) (nI (X.2 (a + 1) - 48))) m X (a + 3) := ⟨by rw [sI_ne (by omega)]; exact t0, by rw [sI_ne (by omega)]; exact t1, fun k hk => by rw [sI_ne (by omega)]; exact t2 k hk⟩
        have tk1 : f_X8_taken (sI I3 (m + 5) (cF C) (nI (X.2 (a + 1) - 48))) m 1 = some (nI (X.2 (a + 2) - 48)) := r8_taken (b := 1) (a := a + 3) hX (by omega) (show a + 3 - 1 < X.1 by omega) (show 48 ≤ X.2 (a + 3 - 1) from by rw [show a + 3 - 1 = a + 2 by omega]; omega) h5
        rw [tk2, bd1s, q0, gv (by omega) (by omega), lt1s, ncl (by omega), tk1, bd1s, sI_ne (by omega), q0, gv (by omega) (by omega), lt1s, ncl (by omega), sI_ne (by omega), sI_ne (by omega), q0, ninc, lt1s]
        refine ⟨_, ⟨((o4.tr (OffRr.r (by omega))).tr (OffRr.r (by omega))).tr (OffRr.f (by omega)), ⟨?_, ?_, fun k hk => ?_⟩, ⟨?_, ?_, fun f hf => ?_, fun x hx => ?_, ?_, fun j j1 j2 => ?_⟩, ⟨?_, ?_⟩⟩, rfl⟩
        · rw [sI_eq, uR_ne (by omega), sI_ne (by omega), sI_ne (by omega)]; exact t0
        · rw [sI_eq, uR_ne (by omega), sI_ne (by omega), sI_ne (by omega)]; exact t1
        · rw [sI_ne (by omega), sI_ne (by omega), sI_ne (by omega)]; exact t2 k hk
        · rw [sI_eq, uR_eq]; rfl
        · rw [sI_eq, uR_ne (by omega), sI_ne (by omega), sI_ne (by omega)]; exact q1
        · have hf' : f < cF C + 1 := hf
          rw [sI_ne (by omega), sI_ne (by omega), sI_eq, sI_ne (by omega), sI_eq]
          show uR _ _ _ f = nI (if f = cF C then X.2 (a + 1) - 48 else cA C f) ∧ uR _ _ _ f = nI (if f = cF C then X.2 (a + 2) - 48 else cB C f)
          unfold uR
          by_cases hff : f = cF C
          · rw [if_pos hff, if_pos hff, if_pos hff, if_pos hff]; exact ⟨rfl, rfl⟩
          · rw [if_neg hff, if_neg hff, if_neg hff, if_neg hff, sI_ne (by omega)]; exact q2 f (by omega)
        · rw [sI_ne (by omega), sI_ne (by omega), sI_ne (by omega)]; exact q3 x hx
        · rw [sI_ne (by omega), sI_ne (by omega), sI_ne (by omega)]; exact q4
        · rw [sI_ne (by omega), sI_ne (by omega), sI_ne (by omega)]; exact q5 j j1 j2
        · rw [sI_eq, uR_ne (by omega), sI_ne (by omega), sI_ne (by omega)]; exact mk.1
        · rw [sI_eq, uR_ne (by omega), sI_ne (by omega), sI_ne (by omega)]; exact mk.2
      · rw [if_neg f2, if_neg f2, bd2s, if_pos rfl]
        exact ⟨I2, ⟨o2, h2⟩, rfl⟩
    · rw [if_neg f1, if_neg f1, bd2s, if_pos rfl]
      exact ⟨I1, ⟨o1, h1⟩, rfl⟩
  · rw [if_pos (show nI (cF C) = 3 by rw [show cF C = 3 by omega]; rfl), if_neg hF]
    exact ⟨I, ⟨OffRr.rf, h⟩, rfl⟩
theorem r8_readProxy {I : HI} {m a : Nat} {X : Tx} {C : Cf} {P : Nat → Prx} (hX : WfT X) (hw : WfQ C P) (ha : a < X.1) (h : RdR I m X a C P) : ∃ I', (OffRr I I' m ∧ RdR I' m X (stpP X a C P).2.1 (stpP X a C P).2.2.1 (stpP X a C P).2.2.2) ∧ f_X8_readProxy I m = some (bZ (stpP X a C P).1, I') := by
  have hT := hX.1
  have h3 := hw.2.2.2.2.1
  unfold f_X8_readProxy stpP
  rw [h.2.1.2.1]
  by_cases hF : cN C < 4
  · have h1 := h.mv (b := a + 1)
    have o1 : OffRr I (sI I m 3 (nI (a + 1))) m := OffRr.f (by omega)
    rw [if_neg (show ¬ nI (cN C) = 4 by rw [i_4, neq (by omega) (by omega)]; omega), if_pos hF, h.1.2.1, ninc, lt1s]
    generalize sI I m 3 (nI (a + 1)) = I1 at h1 o1
    have p1 : f_X8_isFigure I1 m 1 9 = if fg X (a + 1) 1 9 = true then some (1, sI I1 m 3 (nI (a + 2))) else some (0, I1) := r8_isFigure (lo := 1) (hi := 9) hX (by omega) (by omega) (by omega) h1.1
    rw [p1]
    by_cases f1 : fg X (a + 1) 1 9 = true
    · obtain ⟨g1, g2, g3⟩ := fgE f1
      have h2 := h1.mv (b := a + 2)
      have o2 : OffRr I (sI I1 m 3 (nI (a + 2))) m := o1.tr (OffRr.f (by omega))
      rw [if_pos f1, if_pos f1, bd2s, if_neg (show ¬ (1 : Int32) = 0 by decide)]
      generalize sI I1 m 3 (nI (a + 2)) = I2 at h2 o2
      have p2 : f_X8_isFigure I2 m 1 9 = if fg X (a + 2) 1 9 = true then some (1, sI I2 m 3 (nI (a + 3))) else some (0, I2) := r8_isFigure (lo := 1) (hi := 9) hX (by omega) (by omega) (by omega) h2.1
      rw [p2]
      by_cases f2 : fg X (a + 2) 1 9 = true
      · obtain ⟨k1, k2, k3⟩ := fgE f2
        have h4 := h2.mv (b := a + 3)
        have o4 : OffRr I (sI I2 m 3 (nI (a + 3))) m := o2.tr (OffRr.f (by omega))
        rw [if_pos f2, if_pos f2, bd2s, if_neg (show ¬ (1 : Int32) = 0 by decide)]
        generalize sI I2 m 3 (nI (a + 3)) = I3 at h4 o4
        obtain ⟨⟨t0, t1, t2⟩, ⟨q0, q1, q2, q3, q4, q5⟩, mk⟩ := id h4
        have tk2 : f_X8_taken I3 m 2 = some (nI (X.2 (a + 1) - 48)) := r8_taken (b := 2) (a := a + 3) hX (by omega) (show a + 3 - 2 < X.1 by omega) (show 48 ≤ X.2 (a + 3 - 2) from by rw [show a + 3 - 2 = a + 1 by omega]; omega) h4.1
        have h5 : TdR (sI I3 (m + 7) (cN C) (nI (X.2 (a + 1) - 48))) m X (a + 3) := ⟨by rw [sI_ne (by omega)]; exact t0, by rw [sI_ne (by omega)]; exact t1, fun k hk => by rw [sI_ne (by omega)]; exact t2 k hk⟩
        have tk1 : f_X8_taken (sI I3 (m + 7) (cN C) (nI (X.2 (a + 1) - 48))) m 1 = some (nI (X.2 (a + 2) - 48)) := r8_taken (b := 1) (a := a + 3) hX (by omega) (show a + 3 - 1 < X.1 by omega) (show 48 ≤ X.2 (a + 3 - 1) from by rw [show a + 3 - 1 = a + 2 by omega]; omega) h5
        rw [tk2, bd1s, q1, gv (by omega) (by omega), lt1s, ncl (by omega), tk1, bd1s, sI_ne (by omega), q1, i_29, i_28, nmul, nadd, gv (by omega) (by omega), lt1s, ncl (by omega), sI_ne (by omega), sI_ne (by omega), q1, ninc, lt1s]
        refine ⟨_, ⟨((o4.tr (OffRr.r (by omega))).tr (OffRr.r (by omega))).tr (OffRr.f (by omega)), ⟨?_, ?_, fun k hk => ?_⟩, ⟨?_, ?_, fun f hf => ?_, fun x hx => ?_, ?_, fun j j1 j2 => ?_⟩, ⟨?_, ?_⟩⟩, rfl⟩
        · rw [sI_eq, uR_ne (by omega), sI_ne (by omega), sI_ne (by omega)]; exact t0
        · rw [sI_eq, uR_ne (by omega), sI_ne (by omega), sI_ne (by omega)]; exact t1
        · rw [sI_ne (by omega), sI_ne (by omega), sI_ne (by omega)]; exact t2 k hk
        · rw [sI_eq, uR_ne (by omega), sI_ne (by omega), sI_ne (by omega)]; exact q0
        · rw [sI_eq, uR_eq]; rfl
        · rw [sI_ne (by omega), sI_ne (by omega), sI_ne (by omega), sI_ne (by omega), sI_ne (by omega), sI_ne (by omega)]; exact q2 f hf
        · have hx' : x < cN C + 1 := hx
          rw [sI_ne (by omega), sI_ne (by omega), sI_eq]
          show uR _ _ _ x = nI (if x = cN C then X.2 (a + 1) - 48 else cR C x)
          unfold uR
          by_cases hxx : x = cN C
          · rw [if_pos hxx, if_pos hxx]
          · rw [if_neg hxx, if_neg hxx]; exact q3 x (by omega)
        · rw [sI_ne (by omega), sI_eq, sI_ne (by omega)]
          obtain ⟨r0, r1, r2, r3, r4, r5⟩ := q4
          refine ⟨fun x hx => ?_, ?_, ?_, ?_, ?_, ?_⟩
          · have hx' : x < cN C + 1 := hx
            show RxAt _ x (newP P (cN C) (X.2 (a + 2) - 48) x)
            unfold newP
            by_cases hxx : x = cN C
            · subst hxx
              rw [if_pos rfl]
              refine ⟨fun k hk => absurd (show k < 0 from hk) (Nat.not_lt_zero _), ?_, fun c hc => ?_, ?_, ?_, ?_, Nat.zero_le _⟩
              · rw [uR_ne (by omega)]; exact q5 _ (by omega) (by omega)
              · rw [uR_ne (by omega)]; exact q5 _ (by omega) (by omega)
              · rw [uR_ne (by omega)]; exact q5 _ (by omega) (by omega)
              · rw [uR_ne (by omega)]; exact q5 _ (by omega) (by omega)
              · rw [uR_eq]
            · rw [if_neg hxx]
              exact (r0 x (by omega)).kept fun k k1 k2 => uR_ne (by omega)
          · rw [uR_ne (by omega)]; exact r1
          · rw [uR_ne (by omega)]; exact r2
          · rw [uR_ne (by omega)]; exact r3
          · rw [uR_ne (by omega)]; exact r4
          · rw [uR_ne (by omega)]; exact r5
        · have j1' : 29 * (cN C + 1) ≤ j := j1
          rw [sI_ne (by omega), sI_eq, sI_ne (by omega), uR_ne (by omega)]; exact q5 j (by omega) j2
        · rw [sI_eq, uR_ne (by omega), sI_ne (by omega), sI_ne (by omega)]; exact mk.1
        · rw [sI_eq, uR_ne (by omega), sI_ne (by omega), sI_ne (by omega)]; exact mk.2
      · rw [if_neg f2, if_neg f2, bd2s, if_pos rfl]
        exact ⟨I2, ⟨o2, h2⟩, rfl⟩
    · rw [if_neg f1, if_neg f1, bd2s, if_pos rfl]
      exact ⟨I1, ⟨o1, h1⟩, rfl⟩
  · rw [if_pos (show nI (cN C) = 4 by rw [show cN C = 4 by omega]; rfl), if_neg hF]
    exact ⟨I, ⟨OffRr.rf, h⟩, rfl⟩
